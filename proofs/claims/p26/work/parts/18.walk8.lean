set_option maxHeartbeats 4000000 in
set_option maxRecDepth 100000 in
theorem w_L_told_j609 {w : WT} {l : Launch} {p : Program} {e : Env} {s : State} {m : MethodId} {args : Array Value} {below : List Frame} {meth : Method} {c : Code} (C : KC w p s m args meth c cL_told 20 RL (some .boolean)) (hN : 99 ≤ wN w) (hT : wN w = 100) {v12 : Int32} {v13 : Int32} {v14 : Int32} {v15 : Int32} {v16 : Int32} {v17 : Int32} {v19 : Int32} {s0 : Int32} {s1 : Int32} {M : Mem} {L : Lng} {Q : State → Prop} {o : (Int32 × Int32) ⊕ (Int32)} (hf : f_L_told_j609 v12 v13 v14 v15 v16 v17 v19 s0 s1 M = some o) (hA : ∀ z, o = .inl z → AtC w p l e ({ frames := 5, cells := 20007, slots := 120258, locals := 139 } : Room) s m args below meth c Q 20 563 M L [(0, .ref (wAd w 0)), (4, .ref (wAd w 92)), (5, .ref (wAd w 93)), (6, .ref (wAd w 94)), (7, .ref (wAd w 95)), (8, .ref (wAd w 96)), (9, .ref (wAd w 97)), (10, .ref (wAd w 98)), (12, .int v12), (13, .int v13), (14, .int v14), (15, .int v15), (16, .int v16), (17, .int v17), (18, .int z.1), (19, .int z.2)] [] 20006 120252) (hE : ∀ y, o = .inr y → AtC w p l e ({ frames := 5, cells := 20007, slots := 120258, locals := 139 } : Room) s m args below meth c Q 20 618 M L [(0, .ref (wAd w 0)), (4, .ref (wAd w 92)), (5, .ref (wAd w 93)), (6, .ref (wAd w 94)), (7, .ref (wAd w 95)), (8, .ref (wAd w 96)), (9, .ref (wAd w 97)), (10, .ref (wAd w 98)), (12, .int v12), (13, .int v13), (14, .int v14), (15, .int v15), (16, .int v16), (17, .int v17), (18, .int y)] [] 20006 120252) : AtC w p l e ({ frames := 5, cells := 20007, slots := 120258, locals := 139 } : Room) s m args below meth c Q 20 609 M L [(0, .ref (wAd w 0)), (4, .ref (wAd w 92)), (5, .ref (wAd w 93)), (6, .ref (wAd w 94)), (7, .ref (wAd w 95)), (8, .ref (wAd w 96)), (9, .ref (wAd w 97)), (10, .ref (wAd w 98)), (12, .int v12), (13, .int v13), (14, .int v14), (15, .int v15), (16, .int v16), (17, .int v17), (19, .int v19)] [.int s1, .int s0] 20006 120252 := by
  intro H locs ls hP hS hl
  unfold f_L_told_j609 at hf
  refine lv_iadd C.1 C.2.1 dL_told_609 ?_
  refine lv_istore (lv' := [(18, .int (s0 + s1)), (0, .ref (wAd w 0)), (4, .ref (wAd w 92)), (5, .ref (wAd w 93)), (6, .ref (wAd w 94)), (7, .ref (wAd w 95)), (8, .ref (wAd w 96)), (9, .ref (wAd w 97)), (10, .ref (wAd w 98)), (12, .int v12), (13, .int v13), (14, .int v14), (15, .int v15), (16, .int v16), (17, .int v17), (19, .int v19)]) C.1 C.2.1 dL_told_610 hl (by decide) rfl (fun ls hl => ?_)
  refine lv_iinc (v := (v19 + 1)) (lv' := [(19, .int (v19 + 1)), (18, .int (s0 + s1)), (0, .ref (wAd w 0)), (4, .ref (wAd w 92)), (5, .ref (wAd w 93)), (6, .ref (wAd w 94)), (7, .ref (wAd w 95)), (8, .ref (wAd w 96)), (9, .ref (wAd w 97)), (10, .ref (wAd w 98)), (12, .int v12), (13, .int v13), (14, .int v14), (15, .int v15), (16, .int v16), (17, .int v17)]) C.1 C.2.1 dL_told_612 hl (k := 15) rfl rfl (by decide) rfl (fun ls hl => ?_)
  refine lv_goto (tgt := 563) C.1 C.2.1 dL_told_615 (by decide) ?_
  cases hf
  exact hA _ rfl _ _ _ hP hS (lv_sub hl [2, 3, 4, 5, 6, 7, 8, 9, 10, 11, 12, 13, 14, 15, 1, 0] rfl)
set_option maxHeartbeats 4000000 in
set_option maxRecDepth 100000 in
theorem w_L_told_j608 {w : WT} {l : Launch} {p : Program} {e : Env} {s : State} {m : MethodId} {args : Array Value} {below : List Frame} {meth : Method} {c : Code} (C : KC w p s m args meth c cL_told 20 RL (some .boolean)) (hN : 99 ≤ wN w) (hT : wN w = 100) {v12 : Int32} {v13 : Int32} {v14 : Int32} {v15 : Int32} {v16 : Int32} {v17 : Int32} {v19 : Int32} {s0 : Int32} {M : Mem} {L : Lng} {Q : State → Prop} {o : (Int32 × Int32) ⊕ (Int32)} (hf : f_L_told_j608 v12 v13 v14 v15 v16 v17 v19 s0 M = some o) (hA : ∀ z, o = .inl z → AtC w p l e ({ frames := 5, cells := 20007, slots := 120258, locals := 139 } : Room) s m args below meth c Q 20 563 M L [(0, .ref (wAd w 0)), (4, .ref (wAd w 92)), (5, .ref (wAd w 93)), (6, .ref (wAd w 94)), (7, .ref (wAd w 95)), (8, .ref (wAd w 96)), (9, .ref (wAd w 97)), (10, .ref (wAd w 98)), (12, .int v12), (13, .int v13), (14, .int v14), (15, .int v15), (16, .int v16), (17, .int v17), (18, .int z.1), (19, .int z.2)] [] 20006 120252) (hE : ∀ y, o = .inr y → AtC w p l e ({ frames := 5, cells := 20007, slots := 120258, locals := 139 } : Room) s m args below meth c Q 20 618 M L [(0, .ref (wAd w 0)), (4, .ref (wAd w 92)), (5, .ref (wAd w 93)), (6, .ref (wAd w 94)), (7, .ref (wAd w 95)), (8, .ref (wAd w 96)), (9, .ref (wAd w 97)), (10, .ref (wAd w 98)), (12, .int v12), (13, .int v13), (14, .int v14), (15, .int v15), (16, .int v16), (17, .int v17), (18, .int y)] [] 20006 120252) : AtC w p l e ({ frames := 5, cells := 20007, slots := 120258, locals := 139 } : Room) s m args below meth c Q 20 608 M L [(0, .ref (wAd w 0)), (4, .ref (wAd w 92)), (5, .ref (wAd w 93)), (6, .ref (wAd w 94)), (7, .ref (wAd w 95)), (8, .ref (wAd w 96)), (9, .ref (wAd w 97)), (10, .ref (wAd w 98)), (12, .int v12), (13, .int v13), (14, .int v14), (15, .int v15), (16, .int v16), (17, .int v17), (19, .int v19)] [.int s0] 20006 120252 := by
  intro H locs ls hP hS hl
  unfold f_L_told_j608 at hf
  refine lv_iconst (v := 0) C.1 C.2.1 dL_told_608 (by decide) ?_
  exact w_L_told_j609 C hN hT hf hA hE _ _ _ hP hS hl
set_option maxHeartbeats 4000000 in
set_option maxRecDepth 100000 in
theorem w_L_told_j591 {w : WT} {l : Launch} {p : Program} {e : Env} {s : State} {m : MethodId} {args : Array Value} {below : List Frame} {meth : Method} {c : Code} (C : KC w p s m args meth c cL_told 20 RL (some .boolean)) (hN : 99 ≤ wN w) (hT : wN w = 100) {v12 : Int32} {v13 : Int32} {v14 : Int32} {v15 : Int32} {v16 : Int32} {v17 : Int32} {v19 : Int32} {s0 : Int32} {M : Mem} {L : Lng} {Q : State → Prop} {o : (Int32 × Int32) ⊕ (Int32)} (hf : f_L_told_j591 v12 v13 v14 v15 v16 v17 v19 s0 M = some o) (hA : ∀ z, o = .inl z → AtC w p l e ({ frames := 5, cells := 20007, slots := 120258, locals := 139 } : Room) s m args below meth c Q 20 563 M L [(0, .ref (wAd w 0)), (4, .ref (wAd w 92)), (5, .ref (wAd w 93)), (6, .ref (wAd w 94)), (7, .ref (wAd w 95)), (8, .ref (wAd w 96)), (9, .ref (wAd w 97)), (10, .ref (wAd w 98)), (12, .int v12), (13, .int v13), (14, .int v14), (15, .int v15), (16, .int v16), (17, .int v17), (18, .int z.1), (19, .int z.2)] [] 20006 120252) (hE : ∀ y, o = .inr y → AtC w p l e ({ frames := 5, cells := 20007, slots := 120258, locals := 139 } : Room) s m args below meth c Q 20 618 M L [(0, .ref (wAd w 0)), (4, .ref (wAd w 92)), (5, .ref (wAd w 93)), (6, .ref (wAd w 94)), (7, .ref (wAd w 95)), (8, .ref (wAd w 96)), (9, .ref (wAd w 97)), (10, .ref (wAd w 98)), (12, .int v12), (13, .int v13), (14, .int v14), (15, .int v15), (16, .int v16), (17, .int v17), (18, .int y)] [] 20006 120252) : AtC w p l e ({ frames := 5, cells := 20007, slots := 120258, locals := 139 } : Room) s m args below meth c Q 20 591 M L [(0, .ref (wAd w 0)), (4, .ref (wAd w 92)), (5, .ref (wAd w 93)), (6, .ref (wAd w 94)), (7, .ref (wAd w 95)), (8, .ref (wAd w 96)), (9, .ref (wAd w 97)), (10, .ref (wAd w 98)), (12, .int v12), (13, .int v13), (14, .int v14), (15, .int v15), (16, .int v16), (17, .int v17), (19, .int v19)] [.int s0] 20006 120252 := by
  intro H locs ls hP hS hl
  unfold f_L_told_j591 at hf
  refine lv_aload C.1 C.2.1 dL_told_591 (lv_at hl 4 rfl) ?_
  refine lv_iload C.1 C.2.1 dL_told_593 (lv_at hl 14 rfl) ?_
  obtain ⟨x80, hx80, hf⟩ := ob hf
  refine k_iald C hP (Nat.lt_of_lt_of_le (Nat.le_of_ble_eq_true rfl) hN) (ar_L95 w L _) hx80 dL_told_595 ?_
  refine lv_bipush (v := 10) C.1 C.2.1 dL_told_596 (by decide) ?_
  refine lv_iload C.1 C.2.1 dL_told_598 (lv_at hl 13 rfl) ?_
  refine lv_imul C.1 C.2.1 dL_told_600 ?_
  refine lv_icmp_lt (tgt := 608) C.1 C.2.1 dL_told_601 (by decide) (fun c81 => ?_) (fun c81 => ?_)
  · have hf := (if_pos c81).symm.trans hf
    exact w_L_told_j608 C hN hT hf hA hE _ _ _ hP hS hl
  · have hf := (if_neg c81).symm.trans hf
    refine lv_iconst (v := 1) C.1 C.2.1 dL_told_604 (by decide) ?_
    refine lv_goto (tgt := 609) C.1 C.2.1 dL_told_605 (by decide) ?_
    exact w_L_told_j609 C hN hT hf hA hE _ _ _ hP hS hl
set_option maxHeartbeats 4000000 in
set_option maxRecDepth 100000 in
theorem w_L_told_l563 {w : WT} {l : Launch} {p : Program} {e : Env} {s : State} {m : MethodId} {args : Array Value} {below : List Frame} {meth : Method} {c : Code} (C : KC w p s m args meth c cL_told 20 RL (some .boolean)) (hN : 99 ≤ wN w) (hT : wN w = 100) {v12 : Int32} {v13 : Int32} {v14 : Int32} {v15 : Int32} {v16 : Int32} {v17 : Int32} {M : Mem} {L : Lng} {Q : State → Prop} (z : Int32 × Int32) (o : (Int32 × Int32) ⊕ (Int32)) (hf : f_L_told_l563 v12 v13 v14 v15 v16 v17 M z = some o) (hA : ∀ z, o = .inl z → AtC w p l e ({ frames := 5, cells := 20007, slots := 120258, locals := 139 } : Room) s m args below meth c Q 20 563 M L [(0, .ref (wAd w 0)), (4, .ref (wAd w 92)), (5, .ref (wAd w 93)), (6, .ref (wAd w 94)), (7, .ref (wAd w 95)), (8, .ref (wAd w 96)), (9, .ref (wAd w 97)), (10, .ref (wAd w 98)), (12, .int v12), (13, .int v13), (14, .int v14), (15, .int v15), (16, .int v16), (17, .int v17), (18, .int z.1), (19, .int z.2)] [] 20006 120252) (hE : ∀ y, o = .inr y → AtC w p l e ({ frames := 5, cells := 20007, slots := 120258, locals := 139 } : Room) s m args below meth c Q 20 618 M L [(0, .ref (wAd w 0)), (4, .ref (wAd w 92)), (5, .ref (wAd w 93)), (6, .ref (wAd w 94)), (7, .ref (wAd w 95)), (8, .ref (wAd w 96)), (9, .ref (wAd w 97)), (10, .ref (wAd w 98)), (12, .int v12), (13, .int v13), (14, .int v14), (15, .int v15), (16, .int v16), (17, .int v17), (18, .int y)] [] 20006 120252) : AtC w p l e ({ frames := 5, cells := 20007, slots := 120258, locals := 139 } : Room) s m args below meth c Q 20 563 M L [(0, .ref (wAd w 0)), (4, .ref (wAd w 92)), (5, .ref (wAd w 93)), (6, .ref (wAd w 94)), (7, .ref (wAd w 95)), (8, .ref (wAd w 96)), (9, .ref (wAd w 97)), (10, .ref (wAd w 98)), (12, .int v12), (13, .int v13), (14, .int v14), (15, .int v15), (16, .int v16), (17, .int v17), (18, .int z.1), (19, .int z.2)] [] 20006 120252 := by
  intro H locs ls hP hS hl
  unfold f_L_told_l563 at hf
  refine lv_iload C.1 C.2.1 dL_told_563 (lv_at hl 15 rfl) ?_
  refine lv_aload C.1 C.2.1 dL_told_565 (lv_at hl 2 rfl) ?_
  refine lv_iconst (v := 0) C.1 C.2.1 dL_told_567 (by decide) ?_
  obtain ⟨x76, hx76, hf⟩ := ob hf
  refine k_iald C hP (C9 C (Nat.le_of_ble_eq_true rfl)) (ar_L93 w L _) hx76 dL_told_568 ?_
  refine lv_icmp_ge (tgt := 618) C.1 C.2.1 dL_told_569 (by decide) (fun c77 => ?_) (fun c77 => ?_)
  · have hf := (if_pos c77).symm.trans hf
    cases hf
    exact hE _ rfl _ _ _ hP hS (lv_sub hl [0, 1, 2, 3, 4, 5, 6, 7, 8, 9, 10, 11, 12, 13, 14] rfl)
  · have hf := (if_neg c77).symm.trans hf
    refine lv_iload C.1 C.2.1 dL_told_572 (lv_at hl 14 rfl) ?_
    refine lv_aload C.1 C.2.1 dL_told_574 (lv_at hl 6 rfl) ?_
    refine lv_iload C.1 C.2.1 dL_told_576 (lv_at hl 15 rfl) ?_
    obtain ⟨x78, hx78, hf⟩ := ob hf
    refine k_iald C hP (Nat.lt_of_lt_of_le (Nat.le_of_ble_eq_true rfl) hN) (ar_L97 w L _) hx78 dL_told_578 ?_
    refine lv_if_eq (tgt := 591) C.1 C.2.1 dL_told_579 (by decide) (fun c79 => ?_) (fun c79 => ?_)
    · have hf := (if_pos c79).symm.trans hf
      exact w_L_told_j591 C hN hT hf hA hE _ _ _ hP hS (lv_sub hl [0, 1, 2, 3, 4, 5, 6, 7, 8, 9, 10, 11, 12, 13, 15] rfl)
    · have hf := (if_neg c79).symm.trans hf
      refine lv_aload C.1 C.2.1 dL_told_582 (lv_at hl 6 rfl) ?_
      refine lv_iload C.1 C.2.1 dL_told_584 (lv_at hl 15 rfl) ?_
      obtain ⟨x82, hx82, hf⟩ := ob hf
      refine k_iald C hP (Nat.lt_of_lt_of_le (Nat.le_of_ble_eq_true rfl) hN) (ar_L97 w L _) hx82 dL_told_586 ?_
      refine lv_iconst (v := 3) C.1 C.2.1 dL_told_587 (by decide) ?_
      refine lv_icmp_ne (tgt := 608) C.1 C.2.1 dL_told_588 (by decide) (fun c83 => ?_) (fun c83 => ?_)
      · have hf := (if_neg c83).symm.trans hf
        exact w_L_told_j608 C hN hT hf hA hE _ _ _ hP hS (lv_sub hl [0, 1, 2, 3, 4, 5, 6, 7, 8, 9, 10, 11, 12, 13, 15] rfl)
      · have hf := (if_pos c83).symm.trans hf
        exact w_L_told_j591 C hN hT hf hA hE _ _ _ hP hS (lv_sub hl [0, 1, 2, 3, 4, 5, 6, 7, 8, 9, 10, 11, 12, 13, 15] rfl)
set_option maxHeartbeats 4000000 in
set_option maxRecDepth 100000 in
theorem w_L_told_j659 {w : WT} {l : Launch} {p : Program} {e : Env} {s : State} {m : MethodId} {args : Array Value} {below : List Frame} {meth : Method} {c : Code} (C : KC w p s m args meth c cL_told 20 RL (some .boolean)) (hN : 99 ≤ wN w) (hT : wN w = 100) {v12 : Int32} {v13 : Int32} {v14 : Int32} {v15 : Int32} {v17 : Int32} {s0 : Int32} {M : Mem} {L : Lng} {Q : State → Prop} {o : (Int32 × Int32 × Int32) ⊕ (Int32 × Int32)} (hf : f_L_told_j659 v12 v13 v14 v15 v17 s0 M = some o) (hA : ∀ z, o = .inl z → AtC w p l e ({ frames := 5, cells := 20007, slots := 120258, locals := 139 } : Room) s m args below meth c Q 20 549 M L [(0, .ref (wAd w 0)), (4, .ref (wAd w 92)), (5, .ref (wAd w 93)), (6, .ref (wAd w 94)), (7, .ref (wAd w 95)), (8, .ref (wAd w 96)), (9, .ref (wAd w 97)), (10, .ref (wAd w 98)), (12, .int v12), (13, .int v13), (14, .int v14), (15, .int z.1), (16, .int z.2.1), (17, .int z.2.2)] [] 20006 120252) (hE : ∀ y, o = .inr y → AtC w p l e ({ frames := 5, cells := 20007, slots := 120258, locals := 139 } : Room) s m args below meth c Q 20 667 M L [(0, .ref (wAd w 0)), (4, .ref (wAd w 92)), (5, .ref (wAd w 93)), (6, .ref (wAd w 94)), (7, .ref (wAd w 95)), (8, .ref (wAd w 96)), (9, .ref (wAd w 97)), (10, .ref (wAd w 98)), (12, .int v12), (13, .int v13), (14, .int v14), (15, .int y.1), (16, .int y.2)] [] 20006 120252) : AtC w p l e ({ frames := 5, cells := 20007, slots := 120258, locals := 139 } : Room) s m args below meth c Q 20 659 M L [(0, .ref (wAd w 0)), (4, .ref (wAd w 92)), (5, .ref (wAd w 93)), (6, .ref (wAd w 94)), (7, .ref (wAd w 95)), (8, .ref (wAd w 96)), (9, .ref (wAd w 97)), (10, .ref (wAd w 98)), (12, .int v12), (13, .int v13), (14, .int v14), (15, .int v15), (17, .int v17)] [.int s0] 20006 120252 := by
  intro H locs ls hP hS hl
  unfold f_L_told_j659 at hf
  refine lv_istore (lv' := [(16, .int s0), (0, .ref (wAd w 0)), (4, .ref (wAd w 92)), (5, .ref (wAd w 93)), (6, .ref (wAd w 94)), (7, .ref (wAd w 95)), (8, .ref (wAd w 96)), (9, .ref (wAd w 97)), (10, .ref (wAd w 98)), (12, .int v12), (13, .int v13), (14, .int v14), (15, .int v15), (17, .int v17)]) C.1 C.2.1 dL_told_659 hl (by decide) rfl (fun ls hl => ?_)
  refine lv_iinc (v := (v17 + 1)) (lv' := [(17, .int (v17 + 1)), (16, .int s0), (0, .ref (wAd w 0)), (4, .ref (wAd w 92)), (5, .ref (wAd w 93)), (6, .ref (wAd w 94)), (7, .ref (wAd w 95)), (8, .ref (wAd w 96)), (9, .ref (wAd w 97)), (10, .ref (wAd w 98)), (12, .int v12), (13, .int v13), (14, .int v14), (15, .int v15)]) C.1 C.2.1 dL_told_661 hl (k := 13) rfl rfl (by decide) rfl (fun ls hl => ?_)
  refine lv_goto (tgt := 549) C.1 C.2.1 dL_told_664 (by decide) ?_
  cases hf
  exact hA _ rfl _ _ _ hP hS (lv_sub hl [2, 3, 4, 5, 6, 7, 8, 9, 10, 11, 12, 13, 1, 0] rfl)
set_option maxHeartbeats 4000000 in
set_option maxRecDepth 100000 in
theorem w_L_told_j657 {w : WT} {l : Launch} {p : Program} {e : Env} {s : State} {m : MethodId} {args : Array Value} {below : List Frame} {meth : Method} {c : Code} (C : KC w p s m args meth c cL_told 20 RL (some .boolean)) (hN : 99 ≤ wN w) (hT : wN w = 100) {v12 : Int32} {v13 : Int32} {v14 : Int32} {v15 : Int32} {v16 : Int32} {v17 : Int32} {M : Mem} {L : Lng} {Q : State → Prop} {o : (Int32 × Int32 × Int32) ⊕ (Int32 × Int32)} (hf : f_L_told_j657 v12 v13 v14 v15 v16 v17 M = some o) (hA : ∀ z, o = .inl z → AtC w p l e ({ frames := 5, cells := 20007, slots := 120258, locals := 139 } : Room) s m args below meth c Q 20 549 M L [(0, .ref (wAd w 0)), (4, .ref (wAd w 92)), (5, .ref (wAd w 93)), (6, .ref (wAd w 94)), (7, .ref (wAd w 95)), (8, .ref (wAd w 96)), (9, .ref (wAd w 97)), (10, .ref (wAd w 98)), (12, .int v12), (13, .int v13), (14, .int v14), (15, .int z.1), (16, .int z.2.1), (17, .int z.2.2)] [] 20006 120252) (hE : ∀ y, o = .inr y → AtC w p l e ({ frames := 5, cells := 20007, slots := 120258, locals := 139 } : Room) s m args below meth c Q 20 667 M L [(0, .ref (wAd w 0)), (4, .ref (wAd w 92)), (5, .ref (wAd w 93)), (6, .ref (wAd w 94)), (7, .ref (wAd w 95)), (8, .ref (wAd w 96)), (9, .ref (wAd w 97)), (10, .ref (wAd w 98)), (12, .int v12), (13, .int v13), (14, .int v14), (15, .int y.1), (16, .int y.2)] [] 20006 120252) : AtC w p l e ({ frames := 5, cells := 20007, slots := 120258, locals := 139 } : Room) s m args below meth c Q 20 657 M L [(0, .ref (wAd w 0)), (4, .ref (wAd w 92)), (5, .ref (wAd w 93)), (6, .ref (wAd w 94)), (7, .ref (wAd w 95)), (8, .ref (wAd w 96)), (9, .ref (wAd w 97)), (10, .ref (wAd w 98)), (12, .int v12), (13, .int v13), (14, .int v14), (15, .int v15), (16, .int v16), (17, .int v17)] [] 20006 120252 := by
  intro H locs ls hP hS hl
  unfold f_L_told_j657 at hf
  refine lv_iload C.1 C.2.1 dL_told_657 (lv_at hl 12 rfl) ?_
  exact w_L_told_j659 C hN hT hf hA hE _ _ _ hP hS (lv_sub hl [0, 1, 2, 3, 4, 5, 6, 7, 8, 9, 10, 11, 13] rfl)
set_option maxHeartbeats 4000000 in
set_option maxRecDepth 100000 in
theorem w_L_told_j632 {w : WT} {l : Launch} {p : Program} {e : Env} {s : State} {m : MethodId} {args : Array Value} {below : List Frame} {meth : Method} {c : Code} (C : KC w p s m args meth c cL_told 20 RL (some .boolean)) (hN : 99 ≤ wN w) (hT : wN w = 100) {v12 : Int32} {v13 : Int32} {v14 : Int32} {v16 : Int32} {v17 : Int32} {v18 : Int32} {s0 : Int32} {M : Mem} {L : Lng} {Q : State → Prop} {o : (Int32 × Int32 × Int32) ⊕ (Int32 × Int32)} (hf : f_L_told_j632 v12 v13 v14 v16 v17 v18 s0 M = some o) (hA : ∀ z, o = .inl z → AtC w p l e ({ frames := 5, cells := 20007, slots := 120258, locals := 139 } : Room) s m args below meth c Q 20 549 M L [(0, .ref (wAd w 0)), (4, .ref (wAd w 92)), (5, .ref (wAd w 93)), (6, .ref (wAd w 94)), (7, .ref (wAd w 95)), (8, .ref (wAd w 96)), (9, .ref (wAd w 97)), (10, .ref (wAd w 98)), (12, .int v12), (13, .int v13), (14, .int v14), (15, .int z.1), (16, .int z.2.1), (17, .int z.2.2)] [] 20006 120252) (hE : ∀ y, o = .inr y → AtC w p l e ({ frames := 5, cells := 20007, slots := 120258, locals := 139 } : Room) s m args below meth c Q 20 667 M L [(0, .ref (wAd w 0)), (4, .ref (wAd w 92)), (5, .ref (wAd w 93)), (6, .ref (wAd w 94)), (7, .ref (wAd w 95)), (8, .ref (wAd w 96)), (9, .ref (wAd w 97)), (10, .ref (wAd w 98)), (12, .int v12), (13, .int v13), (14, .int v14), (15, .int y.1), (16, .int y.2)] [] 20006 120252) : AtC w p l e ({ frames := 5, cells := 20007, slots := 120258, locals := 139 } : Room) s m args below meth c Q 20 632 M L [(0, .ref (wAd w 0)), (4, .ref (wAd w 92)), (5, .ref (wAd w 93)), (6, .ref (wAd w 94)), (7, .ref (wAd w 95)), (8, .ref (wAd w 96)), (9, .ref (wAd w 97)), (10, .ref (wAd w 98)), (12, .int v12), (13, .int v13), (14, .int v14), (16, .int v16), (17, .int v17), (18, .int v18)] [.int s0] 20006 120252 := by
  intro H locs ls hP hS hl
  unfold f_L_told_j632 at hf
  refine lv_istore (lv' := [(15, .int s0), (0, .ref (wAd w 0)), (4, .ref (wAd w 92)), (5, .ref (wAd w 93)), (6, .ref (wAd w 94)), (7, .ref (wAd w 95)), (8, .ref (wAd w 96)), (9, .ref (wAd w 97)), (10, .ref (wAd w 98)), (12, .int v12), (13, .int v13), (14, .int v14), (16, .int v16), (17, .int v17), (18, .int v18)]) C.1 C.2.1 dL_told_632 hl (by decide) rfl (fun ls hl => ?_)
  refine lv_iload C.1 C.2.1 dL_told_634 (lv_at hl 11 rfl) ?_
  refine lv_if_le (tgt := 657) C.1 C.2.1 dL_told_636 (by decide) (fun c86 => ?_) (fun c86 => ?_)
  · have hf := (if_pos c86).symm.trans hf
    exact w_L_told_j657 C hN hT hf hA hE _ _ _ hP hS (lv_sub hl [1, 2, 3, 4, 5, 6, 7, 8, 9, 10, 11, 0, 12, 13] rfl)
  · have hf := (if_neg c86).symm.trans hf
    refine lv_bipush (v := 100) C.1 C.2.1 dL_told_639 (by decide) ?_
    refine lv_iload C.1 C.2.1 dL_told_641 (lv_at hl 14 rfl) ?_
    refine lv_imul C.1 C.2.1 dL_told_643 ?_
    refine lv_iload C.1 C.2.1 dL_told_644 (lv_at hl 10 rfl) ?_
    refine lv_iload C.1 C.2.1 dL_told_646 (lv_at hl 11 rfl) ?_
    refine lv_imul C.1 C.2.1 dL_told_648 ?_
    refine lv_icmp_lt (tgt := 657) C.1 C.2.1 dL_told_649 (by decide) (fun c87 => ?_) (fun c87 => ?_)
    · have hf := (if_pos c87).symm.trans hf
      exact w_L_told_j657 C hN hT hf hA hE _ _ _ hP hS (lv_sub hl [1, 2, 3, 4, 5, 6, 7, 8, 9, 10, 11, 0, 12, 13] rfl)
    · have hf := (if_neg c87).symm.trans hf
      refine lv_iload C.1 C.2.1 dL_told_652 (lv_at hl 13 rfl) ?_
      refine lv_goto (tgt := 659) C.1 C.2.1 dL_told_654 (by decide) ?_
      exact w_L_told_j659 C hN hT hf hA hE _ _ _ hP hS (lv_sub hl [1, 2, 3, 4, 5, 6, 7, 8, 9, 10, 11, 0, 13] rfl)
set_option maxHeartbeats 4000000 in
set_option maxRecDepth 100000 in
theorem w_L_told_l549 {w : WT} {l : Launch} {p : Program} {e : Env} {s : State} {m : MethodId} {args : Array Value} {below : List Frame} {meth : Method} {c : Code} (C : KC w p s m args meth c cL_told 20 RL (some .boolean)) (hN : 99 ≤ wN w) (hT : wN w = 100) {v12 : Int32} {v13 : Int32} {v14 : Int32} {M : Mem} {L : Lng} {Q : State → Prop} (z : Int32 × Int32 × Int32) (o : (Int32 × Int32 × Int32) ⊕ (Int32 × Int32)) (hf : f_L_told_l549 v12 v13 v14 M z = some o) (hA : ∀ z, o = .inl z → AtC w p l e ({ frames := 5, cells := 20007, slots := 120258, locals := 139 } : Room) s m args below meth c Q 20 549 M L [(0, .ref (wAd w 0)), (4, .ref (wAd w 92)), (5, .ref (wAd w 93)), (6, .ref (wAd w 94)), (7, .ref (wAd w 95)), (8, .ref (wAd w 96)), (9, .ref (wAd w 97)), (10, .ref (wAd w 98)), (12, .int v12), (13, .int v13), (14, .int v14), (15, .int z.1), (16, .int z.2.1), (17, .int z.2.2)] [] 20006 120252) (hE : ∀ y, o = .inr y → AtC w p l e ({ frames := 5, cells := 20007, slots := 120258, locals := 139 } : Room) s m args below meth c Q 20 667 M L [(0, .ref (wAd w 0)), (4, .ref (wAd w 92)), (5, .ref (wAd w 93)), (6, .ref (wAd w 94)), (7, .ref (wAd w 95)), (8, .ref (wAd w 96)), (9, .ref (wAd w 97)), (10, .ref (wAd w 98)), (12, .int v12), (13, .int v13), (14, .int v14), (15, .int y.1), (16, .int y.2)] [] 20006 120252) : AtC w p l e ({ frames := 5, cells := 20007, slots := 120258, locals := 139 } : Room) s m args below meth c Q 20 549 M L [(0, .ref (wAd w 0)), (4, .ref (wAd w 92)), (5, .ref (wAd w 93)), (6, .ref (wAd w 94)), (7, .ref (wAd w 95)), (8, .ref (wAd w 96)), (9, .ref (wAd w 97)), (10, .ref (wAd w 98)), (12, .int v12), (13, .int v13), (14, .int v14), (15, .int z.1), (16, .int z.2.1), (17, .int z.2.2)] [] 20006 120252 := by
  intro H locs ls hP hS hl
  unfold f_L_told_l549 at hf
  refine lv_iload C.1 C.2.1 dL_told_549 (lv_at hl 13 rfl) ?_
  refine lv_sipush (v := 141) C.1 C.2.1 dL_told_551 (by decide) ?_
  refine lv_icmp_ge (tgt := 667) C.1 C.2.1 dL_told_554 (by decide) (fun c75 => ?_) (fun c75 => ?_)
  · have hf := (if_pos c75).symm.trans hf
    cases hf
    exact hE _ rfl _ _ _ hP hS (lv_sub hl [0, 1, 2, 3, 4, 5, 6, 7, 8, 9, 10, 11, 12] rfl)
  · have hf := (if_neg c75).symm.trans hf
    refine lv_iconst (v := 0) C.1 C.2.1 dL_told_557 (by decide) ?_
    refine lv_istore (lv' := [(18, .int 0), (0, .ref (wAd w 0)), (4, .ref (wAd w 92)), (5, .ref (wAd w 93)), (6, .ref (wAd w 94)), (7, .ref (wAd w 95)), (8, .ref (wAd w 96)), (9, .ref (wAd w 97)), (10, .ref (wAd w 98)), (12, .int v12), (13, .int v13), (14, .int v14), (15, .int z.1), (16, .int z.2.1), (17, .int z.2.2)]) C.1 C.2.1 dL_told_558 hl (by decide) rfl (fun ls hl => ?_)
    refine lv_iconst (v := 0) C.1 C.2.1 dL_told_560 (by decide) ?_
    refine lv_istore (lv' := [(19, .int 0), (18, .int 0), (0, .ref (wAd w 0)), (4, .ref (wAd w 92)), (5, .ref (wAd w 93)), (6, .ref (wAd w 94)), (7, .ref (wAd w 95)), (8, .ref (wAd w 96)), (9, .ref (wAd w 97)), (10, .ref (wAd w 98)), (12, .int v12), (13, .int v13), (14, .int v14), (15, .int z.1), (16, .int z.2.1), (17, .int z.2.2)]) C.1 C.2.1 dL_told_561 hl (by decide) rfl (fun ls hl => ?_)
    obtain ⟨o84, ho84, hf⟩ := ob hf
    refine loop_at (w_L_told_l563 C hN hT) FU _ o84 ho84 ?_ _ _ _ hP hS (lv_sub hl [2, 3, 4, 5, 6, 7, 8, 9, 10, 11, 12, 13, 14, 15, 1, 0] rfl)
    intro H locs ls hP hS hl
    refine lv_iload C.1 C.2.1 dL_told_618 (lv_at hl 13 rfl) ?_
    refine lv_iload C.1 C.2.1 dL_told_620 (lv_at hl 8 rfl) ?_
    refine lv_icmp_ne (tgt := 630) C.1 C.2.1 dL_told_622 (by decide) (fun c85 => ?_) (fun c85 => ?_)
    · have hf := (if_neg c85).symm.trans hf
      refine lv_iload C.1 C.2.1 dL_told_630 (lv_at hl 11 rfl) ?_
      exact w_L_told_j632 C hN hT hf hA hE _ _ _ hP hS (lv_sub hl [0, 1, 2, 3, 4, 5, 6, 7, 8, 9, 10, 12, 13, 14] rfl)
    · have hf := (if_pos c85).symm.trans hf
      refine lv_iload C.1 C.2.1 dL_told_625 (lv_at hl 14 rfl) ?_
      refine lv_goto (tgt := 632) C.1 C.2.1 dL_told_627 (by decide) ?_
      exact w_L_told_j632 C hN hT hf hA hE _ _ _ hP hS (lv_sub hl [0, 1, 2, 3, 4, 5, 6, 7, 8, 9, 10, 12, 13, 14] rfl)
set_option maxHeartbeats 4000000 in
set_option maxRecDepth 100000 in
theorem w_L_told_j730 {w : WT} {l : Launch} {p : Program} {e : Env} {s : State} {m : MethodId} {args : Array Value} {below : List Frame} {meth : Method} {c : Code} (C : KC w p s m args meth c cL_told 20 RL (some .boolean)) (hN : 99 ≤ wN w) (hT : wN w = 100) {v12 : Int32} {v13 : Int32} {v14 : Int32} {v15 : Int32} {v16 : Int32} {v17 : Int32} {v19 : Int32} {s0 : Int32} {M : Mem} {L : Lng} {Q : State → Prop} {o : (Int32 × Int32) ⊕ (Int32)} (hf : f_L_told_j730 v12 v13 v14 v15 v16 v17 v19 s0 M = some o) (hA : ∀ z, o = .inl z → AtC w p l e ({ frames := 5, cells := 20007, slots := 120258, locals := 139 } : Room) s m args below meth c Q 20 699 M L [(0, .ref (wAd w 0)), (5, .ref (wAd w 93)), (6, .ref (wAd w 94)), (9, .ref (wAd w 97)), (12, .int v12), (13, .int v13), (14, .int v14), (15, .int v15), (16, .int v16), (17, .int v17), (18, .int z.1), (19, .int z.2)] [] 20007 120258) (hE : ∀ y, o = .inr y → AtC w p l e ({ frames := 5, cells := 20007, slots := 120258, locals := 139 } : Room) s m args below meth c Q 20 738 M L [(0, .ref (wAd w 0)), (6, .ref (wAd w 94)), (12, .int v12), (13, .int v13), (14, .int v14), (15, .int v15), (16, .int v16), (17, .int v17), (18, .int y)] [] 20007 120258) : AtC w p l e ({ frames := 5, cells := 20007, slots := 120258, locals := 139 } : Room) s m args below meth c Q 20 730 M L [(0, .ref (wAd w 0)), (5, .ref (wAd w 93)), (6, .ref (wAd w 94)), (9, .ref (wAd w 97)), (12, .int v12), (13, .int v13), (14, .int v14), (15, .int v15), (16, .int v16), (17, .int v17), (19, .int v19)] [.int s0] 20007 120258 := by
  intro H locs ls hP hS hl
  unfold f_L_told_j730 at hf
  refine lv_istore (lv' := [(18, .int s0), (0, .ref (wAd w 0)), (5, .ref (wAd w 93)), (6, .ref (wAd w 94)), (9, .ref (wAd w 97)), (12, .int v12), (13, .int v13), (14, .int v14), (15, .int v15), (16, .int v16), (17, .int v17), (19, .int v19)]) C.1 C.2.1 dL_told_730 hl (by decide) rfl (fun ls hl => ?_)
  refine lv_iinc (v := (v19 + 1)) (lv' := [(19, .int (v19 + 1)), (18, .int s0), (0, .ref (wAd w 0)), (5, .ref (wAd w 93)), (6, .ref (wAd w 94)), (9, .ref (wAd w 97)), (12, .int v12), (13, .int v13), (14, .int v14), (15, .int v15), (16, .int v16), (17, .int v17)]) C.1 C.2.1 dL_told_732 hl (k := 11) rfl rfl (by decide) rfl (fun ls hl => ?_)
  refine lv_goto (tgt := 699) C.1 C.2.1 dL_told_735 (by decide) ?_
  cases hf
  exact hA _ rfl _ _ _ hP hS (lv_sub hl [2, 3, 4, 5, 6, 7, 8, 9, 10, 11, 1, 0] rfl)
set_option maxHeartbeats 4000000 in
set_option maxRecDepth 100000 in
theorem w_L_told_l699 {w : WT} {l : Launch} {p : Program} {e : Env} {s : State} {m : MethodId} {args : Array Value} {below : List Frame} {meth : Method} {c : Code} (C : KC w p s m args meth c cL_told 20 RL (some .boolean)) (hN : 99 ≤ wN w) (hT : wN w = 100) {v12 : Int32} {v13 : Int32} {v14 : Int32} {v15 : Int32} {v16 : Int32} {v17 : Int32} {M : Mem} {L : Lng} {Q : State → Prop} (z : Int32 × Int32) (o : (Int32 × Int32) ⊕ (Int32)) (hf : f_L_told_l699 v12 v13 v14 v15 v16 v17 M z = some o) (hA : ∀ z, o = .inl z → AtC w p l e ({ frames := 5, cells := 20007, slots := 120258, locals := 139 } : Room) s m args below meth c Q 20 699 M L [(0, .ref (wAd w 0)), (5, .ref (wAd w 93)), (6, .ref (wAd w 94)), (9, .ref (wAd w 97)), (12, .int v12), (13, .int v13), (14, .int v14), (15, .int v15), (16, .int v16), (17, .int v17), (18, .int z.1), (19, .int z.2)] [] 20007 120258) (hE : ∀ y, o = .inr y → AtC w p l e ({ frames := 5, cells := 20007, slots := 120258, locals := 139 } : Room) s m args below meth c Q 20 738 M L [(0, .ref (wAd w 0)), (6, .ref (wAd w 94)), (12, .int v12), (13, .int v13), (14, .int v14), (15, .int v15), (16, .int v16), (17, .int v17), (18, .int y)] [] 20007 120258) : AtC w p l e ({ frames := 5, cells := 20007, slots := 120258, locals := 139 } : Room) s m args below meth c Q 20 699 M L [(0, .ref (wAd w 0)), (5, .ref (wAd w 93)), (6, .ref (wAd w 94)), (9, .ref (wAd w 97)), (12, .int v12), (13, .int v13), (14, .int v14), (15, .int v15), (16, .int v16), (17, .int v17), (18, .int z.1), (19, .int z.2)] [] 20007 120258 := by
  intro H locs ls hP hS hl
  unfold f_L_told_l699 at hf
  refine lv_iload C.1 C.2.1 dL_told_699 (lv_at hl 11 rfl) ?_
  refine lv_aload C.1 C.2.1 dL_told_701 (lv_at hl 1 rfl) ?_
  refine lv_iconst (v := 0) C.1 C.2.1 dL_told_703 (by decide) ?_
  obtain ⟨x91, hx91, hf⟩ := ob hf
  refine k_iald C hP (C9 C (Nat.le_of_ble_eq_true rfl)) (ar_L93 w L _) hx91 dL_told_704 ?_
  refine lv_icmp_ge (tgt := 738) C.1 C.2.1 dL_told_705 (by decide) (fun c92 => ?_) (fun c92 => ?_)
  · have hf := (if_pos c92).symm.trans hf
    cases hf
    exact hE _ rfl _ _ _ hP hS (lv_sub hl [0, 2, 4, 5, 6, 7, 8, 9, 10] rfl)
  · have hf := (if_neg c92).symm.trans hf
    refine lv_aload C.1 C.2.1 dL_told_708 (lv_at hl 3 rfl) ?_
    refine lv_iload C.1 C.2.1 dL_told_710 (lv_at hl 11 rfl) ?_
    obtain ⟨x93, hx93, hf⟩ := ob hf
    refine k_iald C hP (Nat.lt_of_lt_of_le (Nat.le_of_ble_eq_true rfl) hN) (ar_L97 w L _) hx93 dL_told_712 ?_
    refine lv_if_ne (tgt := 728) C.1 C.2.1 dL_told_713 (by decide) (fun c94 => ?_) (fun c94 => ?_)
    · have hf := (if_neg c94).symm.trans hf
      refine lv_iload C.1 C.2.1 dL_told_728 (lv_at hl 10 rfl) ?_
      exact w_L_told_j730 C hN hT hf hA hE _ _ _ hP hS (lv_sub hl [0, 1, 2, 3, 4, 5, 6, 7, 8, 9, 11] rfl)
    · have hf := (if_pos c94).symm.trans hf
      refine lv_aload C.1 C.2.1 dL_told_716 (lv_at hl 1 rfl) ?_
      refine lv_iconst (v := 0) C.1 C.2.1 dL_told_718 (by decide) ?_
      obtain ⟨x95, hx95, hf⟩ := ob hf
      refine k_iald C hP (C9 C (Nat.le_of_ble_eq_true rfl)) (ar_L93 w L _) hx95 dL_told_719 ?_
      refine lv_iconst (v := 1) C.1 C.2.1 dL_told_720 (by decide) ?_
      refine lv_isub C.1 C.2.1 dL_told_721 ?_
      refine lv_iload C.1 C.2.1 dL_told_722 (lv_at hl 11 rfl) ?_
      refine lv_isub C.1 C.2.1 dL_told_724 ?_
      refine lv_goto (tgt := 730) C.1 C.2.1 dL_told_725 (by decide) ?_
      exact w_L_told_j730 C hN hT hf hA hE _ _ _ hP hS (lv_sub hl [0, 1, 2, 3, 4, 5, 6, 7, 8, 9, 11] rfl)
set_option maxHeartbeats 4000000 in
set_option maxRecDepth 100000 in
theorem w_L_told_j806 {w : WT} {l : Launch} {p : Program} {e : Env} {s : State} {m : MethodId} {args : Array Value} {below : List Frame} {meth : Method} {c : Code} (C : KC w p s m args meth c cL_told 20 RL (some .boolean)) (hN : 99 ≤ wN w) (hT : wN w = 100) {s0 : UInt64} {s1 : UInt64} {M : Mem} {L : Lng} {out : Int32 × Mem} (hf : f_L_told_j806 s0 s1 M = some out) : AtC w p l e ({ frames := 5, cells := 20007, slots := 120258, locals := 139 } : Room) s m args below meth c (MQ below (QI w out.1 out.2 L) args s 20007 120258 (wA w)) 20 806 M L [] [.double s1, .double s0] 20007 120258 := by
  intro H locs ls hP hS hl
  unfold f_L_told_j806 at hf
  refine lv_dcmp C.1 C.2.1 dL_told_806 ?_
  refine lv_if_ne (tgt := 814) C.1 C.2.1 dL_told_807 (by decide) (fun c109 => ?_) (fun c109 => ?_)
  · have hf := (if_neg c109).symm.trans hf
    refine lv_iconst (v := 0) C.1 C.2.1 dL_told_814 (by decide) ?_
    cases hf
    exact krz C hP hS bz0 dL_told_815
  · have hf := (if_pos c109).symm.trans hf
    refine lv_iconst (v := 1) C.1 C.2.1 dL_told_810 (by decide) ?_
    refine lv_goto (tgt := 815) C.1 C.2.1 dL_told_811 (by decide) ?_
    cases hf
    exact krz C hP hS bz1 dL_told_815
set_option maxHeartbeats 4000000 in
set_option maxRecDepth 100000 in
theorem w_L_told_j781 {w : WT} {l : Launch} {p : Program} {e : Env} {s : State} {m : MethodId} {args : Array Value} {below : List Frame} {meth : Method} {c : Code} (C : KC w p s m args meth c cL_told 20 RL (some .boolean)) (hN : 99 ≤ wN w) (hT : wN w = 100) {v14 : Int32} {v17 : Int32} {s0 : Int32} {s1 : Int32} {M : Mem} {L : Lng} {out : Int32 × Mem} (hf : f_L_told_j781 v14 v17 s0 s1 M = some out) : AtC w p l e ({ frames := 5, cells := 20007, slots := 120258, locals := 139 } : Room) s m args below meth c (MQ below (QI w out.1 out.2 L) args s 20007 120258 (wA w)) 20 781 M L [(0, .ref (wAd w 0)), (14, .int v14), (17, .int v17)] [.int s1, .int s0] 20007 120258 := by
  intro H locs ls hP hS hl
  unfold f_L_told_j781 at hf
  refine lv_icmp_ne (tgt := 814) C.1 C.2.1 dL_told_781 (by decide) (fun c104 => ?_) (fun c104 => ?_)
  · have hf := (if_neg c104).symm.trans hf
    refine lv_iconst (v := 0) C.1 C.2.1 dL_told_814 (by decide) ?_
    cases hf
    exact krz C hP hS bz0 dL_told_815
  · have hf := (if_pos c104).symm.trans hf
    refine lv_aload_n C.1 C.2.1 dL_told_784 rfl (lv_at hl 0 rfl) ?_
    obtain ⟨r105, hr105, hf⟩ := ob hf
    refine kcd (kV (As := []) (rest := []) C hl.1 hP hS (c_X8_share w l C.2.2.2.2.2.2.2.2 (L := L) hr105) (gV q498 q499 q500 q1 q501) hd_X8_share (C9 C (lt_NoisePost h0_NoisePost)) (ob_NoisePost h0_NoisePost w L _) rfl ⟨rfl, rfl⟩ ⟨Nat.le_of_ble_eq_true rfl, Nat.le_of_ble_eq_true rfl⟩ rfl rfl (Nat.le_of_ble_eq_true rfl) dL_told_785 ⟨Nat.le_of_ble_eq_true rfl, Nat.le_of_ble_eq_true rfl⟩) hS (fun H locs hP hS => ?_)
    refine lv_iload C.1 C.2.1 dL_told_788 (lv_at hl 1 rfl) ?_
    refine lv_if_ne (tgt := 797) C.1 C.2.1 dL_told_790 (by decide) (fun c106 => ?_) (fun c106 => ?_)
    · have hf := (if_neg c106).symm.trans hf
      refine lv_dconst1 C.1 C.2.1 dL_told_797 ?_
      refine lv_iload C.1 C.2.1 dL_told_798 (lv_at hl 2 rfl) ?_
      refine lv_i2d C.1 C.2.1 dL_told_800 ?_
      obtain ⟨x107, hx107, hf⟩ := ob hf
      refine k_dmul C hx107 dL_told_801 ?_
      refine lv_iload C.1 C.2.1 dL_told_802 (lv_at hl 1 rfl) ?_
      refine lv_i2d C.1 C.2.1 dL_told_804 ?_
      obtain ⟨x108, hx108, hf⟩ := ob hf
      refine k_ddiv C hx108 dL_told_805 ?_
      exact w_L_told_j806 C hN hT hf _ _ _ hP hS (lv_sub hl [] rfl)
    · have hf := (if_pos c106).symm.trans hf
      refine lv_dconst0 C.1 C.2.1 dL_told_793 ?_
      refine lv_goto (tgt := 806) C.1 C.2.1 dL_told_794 (by decide) ?_
      exact w_L_told_j806 C hN hT hf _ _ _ hP hS (lv_sub hl [] rfl)
set_option maxHeartbeats 4000000 in
set_option maxRecDepth 100000 in
theorem w_L_told_j738 {w : WT} {l : Launch} {p : Program} {e : Env} {s : State} {m : MethodId} {args : Array Value} {below : List Frame} {meth : Method} {c : Code} (C : KC w p s m args meth c cL_told 20 RL (some .boolean)) (hN : 99 ≤ wN w) (hT : wN w = 100) {v12 : Int32} {v13 : Int32} {v14 : Int32} {v15 : Int32} {v16 : Int32} {v17 : Int32} {v18 : Int32} {M : Mem} {L : Lng} {out : Int32 × Mem} (hf : f_L_told_j738 v12 v13 v14 v15 v16 v17 v18 M = some out) : AtC w p l e ({ frames := 5, cells := 20007, slots := 120258, locals := 139 } : Room) s m args below meth c (MQ below (QI w out.1 out.2 L) args s 20007 120258 (wA w)) 20 738 M L [(0, .ref (wAd w 0)), (6, .ref (wAd w 94)), (12, .int v12), (13, .int v13), (14, .int v14), (15, .int v15), (16, .int v16), (17, .int v17), (18, .int v18)] [] 20007 120258 := by
  intro H locs ls hP hS hl
  unfold f_L_told_j738 at hf
  refine lv_aload_n C.1 C.2.1 dL_told_738 rfl (lv_at hl 0 rfl) ?_
  refine lv_iload C.1 C.2.1 dL_told_739 (lv_at hl 2 rfl) ?_
  obtain ⟨r97, hr97, hf⟩ := ob hf
  refine kci (kV (As := [.int v12]) (rest := []) C hl.1 hP hS (c_X8_levelCount w l C.2.2.2.2.2.2.2.2 (L := L) hr97) (gV q481 q482 q483 q1 q484) hd_X8_levelCount (C9 C (lt_NoisePost h0_NoisePost)) (ob_NoisePost h0_NoisePost w L _) rfl ⟨rfl, rfl⟩ ⟨Nat.le_of_ble_eq_true rfl, Nat.le_of_ble_eq_true rfl⟩ rfl rfl (Nat.le_of_ble_eq_true rfl) dL_told_741 ⟨Nat.le_of_ble_eq_true rfl, Nat.le_of_ble_eq_true rfl⟩) hS (fun H locs hP hS => ?_)
  refine lv_iload C.1 C.2.1 dL_told_744 (lv_at hl 5 rfl) ?_
  refine lv_icmp_ne (tgt := 814) C.1 C.2.1 dL_told_746 (by decide) (fun c98 => ?_) (fun c98 => ?_)
  · have hf := (if_neg c98).symm.trans hf
    refine lv_iconst (v := 0) C.1 C.2.1 dL_told_814 (by decide) ?_
    cases hf
    exact krz C hP hS bz0 dL_told_815
  · have hf := (if_pos c98).symm.trans hf
    refine lv_aload_n C.1 C.2.1 dL_told_749 rfl (lv_at hl 0 rfl) ?_
    refine lv_iload C.1 C.2.1 dL_told_750 (lv_at hl 3 rfl) ?_
    obtain ⟨r99, hr99, hf⟩ := ob hf
    refine kci (kV (As := [.int v13]) (rest := []) C hl.1 hP hS (c_X8_percentLevel w l C.2.2.2.2.2.2.2.2 (L := L) hr99) (gV q489 q490 q491 q1 q492) hd_X8_percentLevel (C9 C (lt_NoisePost h0_NoisePost)) (ob_NoisePost h0_NoisePost w L _) rfl ⟨rfl, rfl⟩ ⟨Nat.le_of_ble_eq_true rfl, Nat.le_of_ble_eq_true rfl⟩ rfl rfl (Nat.le_of_ble_eq_true rfl) dL_told_752 ⟨Nat.le_of_ble_eq_true rfl, Nat.le_of_ble_eq_true rfl⟩) hS (fun H locs hP hS => ?_)
    refine lv_iload C.1 C.2.1 dL_told_755 (lv_at hl 6 rfl) ?_
    refine lv_icmp_ne (tgt := 814) C.1 C.2.1 dL_told_757 (by decide) (fun c100 => ?_) (fun c100 => ?_)
    · have hf := (if_neg c100).symm.trans hf
      refine lv_iconst (v := 0) C.1 C.2.1 dL_told_814 (by decide) ?_
      cases hf
      exact krz C hP hS bz0 dL_told_815
    · have hf := (if_pos c100).symm.trans hf
      refine lv_aload_n C.1 C.2.1 dL_told_760 rfl (lv_at hl 0 rfl) ?_
      refine lv_bipush (v := 11) C.1 C.2.1 dL_told_761 (by decide) ?_
      obtain ⟨r101, hr101, hf⟩ := ob hf
      refine kci (kV (As := [.int 11]) (rest := []) C hl.1 hP hS (c_X8_count w l C.2.2.2.2.2.2.2.2 (L := L) hr101) (gV q292 q293 q294 q1 q295) hd_X8_count (C9 C (lt_NoisePost h0_NoisePost)) (ob_NoisePost h0_NoisePost w L _) rfl ⟨rfl, rfl⟩ ⟨Nat.le_of_ble_eq_true rfl, Nat.le_of_ble_eq_true rfl⟩ rfl rfl (Nat.le_of_ble_eq_true rfl) dL_told_763 ⟨Nat.le_of_ble_eq_true rfl, Nat.le_of_ble_eq_true rfl⟩) hS (fun H locs hP hS => ?_)
      refine lv_iload C.1 C.2.1 dL_told_766 (lv_at hl 8 rfl) ?_
      refine lv_aload C.1 C.2.1 dL_told_768 (lv_at hl 1 rfl) ?_
      refine lv_bipush (v := 6) C.1 C.2.1 dL_told_770 (by decide) ?_
      obtain ⟨x102, hx102, hf⟩ := ob hf
      refine k_iald C hP (C9 C (Nat.le_of_ble_eq_true rfl)) (ar_L94 w L _) hx102 dL_told_772 ?_
      refine lv_icmp_ge (tgt := 780) C.1 C.2.1 dL_told_773 (by decide) (fun c103 => ?_) (fun c103 => ?_)
      · have hf := (if_pos c103).symm.trans hf
        refine lv_iconst (v := 0) C.1 C.2.1 dL_told_780 (by decide) ?_
        exact w_L_told_j781 C hN hT hf _ _ _ hP hS (lv_sub hl [0, 4, 7] rfl)
      · have hf := (if_neg c103).symm.trans hf
        refine lv_iconst (v := 1) C.1 C.2.1 dL_told_776 (by decide) ?_
        refine lv_goto (tgt := 781) C.1 C.2.1 dL_told_777 (by decide) ?_
        exact w_L_told_j781 C hN hT hf _ _ _ hP hS (lv_sub hl [0, 4, 7] rfl)
set_option maxHeartbeats 4000000 in
set_option maxRecDepth 100000 in
theorem w_L_told_j667 {w : WT} {l : Launch} {p : Program} {e : Env} {s : State} {m : MethodId} {args : Array Value} {below : List Frame} {meth : Method} {c : Code} (C : KC w p s m args meth c cL_told 20 RL (some .boolean)) (hN : 99 ≤ wN w) (hT : wN w = 100) {v12 : Int32} {v13 : Int32} {v14 : Int32} {v15 : Int32} {v16 : Int32} {M : Mem} {L : Lng} {out : Int32 × Mem} (hf : f_L_told_j667 v12 v13 v14 v15 v16 M = some out) : AtC w p l e ({ frames := 5, cells := 20007, slots := 120258, locals := 139 } : Room) s m args below meth c (MQ below (QI w out.1 out.2 L) args s 20007 120258 (wA w)) 20 667 M L [(0, .ref (wAd w 0)), (4, .ref (wAd w 92)), (5, .ref (wAd w 93)), (6, .ref (wAd w 94)), (7, .ref (wAd w 95)), (8, .ref (wAd w 96)), (9, .ref (wAd w 97)), (10, .ref (wAd w 98)), (12, .int v12), (13, .int v13), (14, .int v14), (15, .int v15), (16, .int v16)] [] 20006 120252 := by
  intro H locs ls hP hS hl
  unfold f_L_told_j667 at hf
  refine lv_iconst (v := 4) C.1 C.2.1 dL_told_667 (by decide) ?_
  refine lv_aload C.1 C.2.1 dL_told_668 (lv_at hl 1 rfl) ?_
  refine lv_aload C.1 C.2.1 dL_told_670 (lv_at hl 2 rfl) ?_
  refine lv_aload C.1 C.2.1 dL_told_672 (lv_at hl 3 rfl) ?_
  refine lv_aload C.1 C.2.1 dL_told_674 (lv_at hl 4 rfl) ?_
  refine lv_aload C.1 C.2.1 dL_told_676 (lv_at hl 5 rfl) ?_
  refine lv_aload C.1 C.2.1 dL_told_678 (lv_at hl 6 rfl) ?_
  refine lv_aload C.1 C.2.1 dL_told_680 (lv_at hl 7 rfl) ?_
  obtain ⟨r89, hr89, hf⟩ := ob hf
  refine kcic (kSc (As := [.int 4, .ref (wAd w 92), .ref (wAd w 93), .ref (wAd w 94), .ref (wAd w 95), .ref (wAd w 96), .ref (wAd w 97), .ref (wAd w 98)]) (rest := []) C hl.1 hP hS (c_L_counted w l C.2.2.2.2.2.2.2.2 hN (Or.inr rfl) hT (L := L) hr89) (gS q475 q476 q0 q477) hd_L_counted ⟨rfl, rfl⟩ ⟨Nat.le_of_ble_eq_true rfl, Nat.le_of_ble_eq_true rfl⟩ rfl rfl (Nat.le_of_ble_eq_true rfl) dL_told_682 ⟨Nat.le_of_ble_eq_true rfl, Nat.le_of_ble_eq_true rfl⟩) hS (fun H locs hP hS => ?_)
  refine lv_istore (lv' := [(17, .int r89.1), (0, .ref (wAd w 0)), (4, .ref (wAd w 92)), (5, .ref (wAd w 93)), (6, .ref (wAd w 94)), (7, .ref (wAd w 95)), (8, .ref (wAd w 96)), (9, .ref (wAd w 97)), (10, .ref (wAd w 98)), (12, .int v12), (13, .int v13), (14, .int v14), (15, .int v15), (16, .int v16)]) C.1 C.2.1 dL_told_685 hl (by decide) rfl (fun ls hl => ?_)
  refine lv_aload C.1 C.2.1 dL_told_687 (lv_at hl 3 rfl) ?_
  refine lv_iconst (v := 0) C.1 C.2.1 dL_told_689 (by decide) ?_
  obtain ⟨x90, hx90, hf⟩ := ob hf
  refine k_iald C hP (C9 C (Nat.le_of_ble_eq_true rfl)) (ar_L93 w L _) hx90 dL_told_690 ?_
  refine lv_bipush (v := 100) C.1 C.2.1 dL_told_691 (by decide) ?_
  refine lv_iadd C.1 C.2.1 dL_told_693 ?_
  refine lv_istore (lv' := [(18, .int (x90 + 100)), (17, .int r89.1), (0, .ref (wAd w 0)), (4, .ref (wAd w 92)), (5, .ref (wAd w 93)), (6, .ref (wAd w 94)), (7, .ref (wAd w 95)), (8, .ref (wAd w 96)), (9, .ref (wAd w 97)), (10, .ref (wAd w 98)), (12, .int v12), (13, .int v13), (14, .int v14), (15, .int v15), (16, .int v16)]) C.1 C.2.1 dL_told_694 hl (by decide) rfl (fun ls hl => ?_)
  refine lv_iconst (v := 0) C.1 C.2.1 dL_told_696 (by decide) ?_
  refine lv_istore (lv' := [(19, .int 0), (18, .int (x90 + 100)), (17, .int r89.1), (0, .ref (wAd w 0)), (4, .ref (wAd w 92)), (5, .ref (wAd w 93)), (6, .ref (wAd w 94)), (7, .ref (wAd w 95)), (8, .ref (wAd w 96)), (9, .ref (wAd w 97)), (10, .ref (wAd w 98)), (12, .int v12), (13, .int v13), (14, .int v14), (15, .int v15), (16, .int v16)]) C.1 C.2.1 dL_told_697 hl (by decide) rfl (fun ls hl => ?_)
  obtain ⟨o96, ho96, hf⟩ := ob hf
  refine loop_at (w_L_told_l699 C hN hT) FU _ o96 ho96 ?_ _ _ _ hP hS (lv_sub hl [3, 5, 6, 9, 11, 12, 13, 14, 15, 2, 1, 0] rfl)
  intro H locs ls hP hS hl
  exact w_L_told_j738 C hN hT hf _ _ _ hP hS hl
set_option maxHeartbeats 4000000 in
set_option maxRecDepth 100000 in
theorem w_L_told_j499 {w : WT} {l : Launch} {p : Program} {e : Env} {s : State} {m : MethodId} {args : Array Value} {below : List Frame} {meth : Method} {c : Code} (C : KC w p s m args meth c cL_told 20 RL (some .boolean)) (hN : 99 ≤ wN w) (hT : wN w = 100) {v1 : Int32} {M : Mem} {L : Lng} {out : Int32 × Mem} (hf : f_L_told_j499 v1 M = some out) : AtC w p l e ({ frames := 5, cells := 20007, slots := 120258, locals := 139 } : Room) s m args below meth c (MQ below (QI w out.1 out.2 L) args s 20007 120258 (wA w)) 20 499 M L [(0, .ref (wAd w 0)), (1, .int v1), (4, .ref (wAd w 92)), (5, .ref (wAd w 93)), (6, .ref (wAd w 94)), (7, .ref (wAd w 95)), (8, .ref (wAd w 96)), (9, .ref (wAd w 97)), (10, .ref (wAd w 98))] [] 20005 120246 := by
  intro H locs ls hP hS hl
  unfold f_L_told_j499 at hf
  refine lv_iload_n C.1 C.2.1 dL_told_499 rfl (lv_at hl 1 rfl) ?_
  refine lv_sipush (v := 141) C.1 C.2.1 dL_told_500 (by decide) ?_
  obtain ⟨r72, hr72, hf⟩ := ob hf
  refine kci (kS (As := [.int v1, .int 141]) (rest := []) C hl.1 hP hS (c_L_at w l C.2.2.2.2.2.2.2.2 (L := L) hr72) (gS q384 q385 q0 q386) hd_L_at ⟨rfl, rfl⟩ ⟨Nat.le_of_ble_eq_true rfl, Nat.le_of_ble_eq_true rfl⟩ rfl rfl (Nat.le_of_ble_eq_true rfl) dL_told_503 ⟨Nat.le_of_ble_eq_true rfl, Nat.le_of_ble_eq_true rfl⟩) hS (fun H locs hP hS => ?_)
  refine lv_istore (lv' := [(12, .int r72), (0, .ref (wAd w 0)), (1, .int v1), (4, .ref (wAd w 92)), (5, .ref (wAd w 93)), (6, .ref (wAd w 94)), (7, .ref (wAd w 95)), (8, .ref (wAd w 96)), (9, .ref (wAd w 97)), (10, .ref (wAd w 98))]) C.1 C.2.1 dL_told_506 hl (by decide) rfl (fun ls hl => ?_)
  refine lv_iconst (v := 1) C.1 C.2.1 dL_told_508 (by decide) ?_
  refine lv_iload_n C.1 C.2.1 dL_told_509 rfl (lv_at hl 2 rfl) ?_
  refine lv_iconst (v := 3) C.1 C.2.1 dL_told_510 (by decide) ?_
  refine lv_ishr C.1 C.2.1 dL_told_511 ?_
  refine lv_bipush (v := 100) C.1 C.2.1 dL_told_512 (by decide) ?_
  obtain ⟨r73, hr73, hf⟩ := ob hf
  refine kci (kS (As := [.int (v1 >>> (3 &&& 31)), .int 100]) (rest := [.int 1]) C hl.1 hP hS (c_L_at w l C.2.2.2.2.2.2.2.2 (L := L) hr73) (gS q384 q385 q0 q386) hd_L_at ⟨rfl, rfl⟩ ⟨Nat.le_of_ble_eq_true rfl, Nat.le_of_ble_eq_true rfl⟩ rfl rfl (Nat.le_of_ble_eq_true rfl) dL_told_514 ⟨Nat.le_of_ble_eq_true rfl, Nat.le_of_ble_eq_true rfl⟩) hS (fun H locs hP hS => ?_)
  refine lv_iadd C.1 C.2.1 dL_told_517 ?_
  refine lv_istore (lv' := [(13, .int (1 + r73)), (12, .int r72), (0, .ref (wAd w 0)), (1, .int v1), (4, .ref (wAd w 92)), (5, .ref (wAd w 93)), (6, .ref (wAd w 94)), (7, .ref (wAd w 95)), (8, .ref (wAd w 96)), (9, .ref (wAd w 97)), (10, .ref (wAd w 98))]) C.1 C.2.1 dL_told_518 hl (by decide) rfl (fun ls hl => ?_)
  refine lv_iconst (v := 1) C.1 C.2.1 dL_told_520 (by decide) ?_
  refine lv_aload C.1 C.2.1 dL_told_521 (lv_at hl 4 rfl) ?_
  refine lv_aload C.1 C.2.1 dL_told_523 (lv_at hl 5 rfl) ?_
  refine lv_aload C.1 C.2.1 dL_told_525 (lv_at hl 6 rfl) ?_
  refine lv_aload C.1 C.2.1 dL_told_527 (lv_at hl 7 rfl) ?_
  refine lv_aload C.1 C.2.1 dL_told_529 (lv_at hl 8 rfl) ?_
  refine lv_aload C.1 C.2.1 dL_told_531 (lv_at hl 9 rfl) ?_
  refine lv_aload C.1 C.2.1 dL_told_533 (lv_at hl 10 rfl) ?_
  obtain ⟨r74, hr74, hf⟩ := ob hf
  refine kcic (kSc (As := [.int 1, .ref (wAd w 92), .ref (wAd w 93), .ref (wAd w 94), .ref (wAd w 95), .ref (wAd w 96), .ref (wAd w 97), .ref (wAd w 98)]) (rest := []) C hl.1 hP hS (c_L_counted w l C.2.2.2.2.2.2.2.2 hN (Or.inr rfl) hT (L := L) hr74) (gS q475 q476 q0 q477) hd_L_counted ⟨rfl, rfl⟩ ⟨Nat.le_of_ble_eq_true rfl, Nat.le_of_ble_eq_true rfl⟩ rfl rfl (Nat.le_of_ble_eq_true rfl) dL_told_535 ⟨Nat.le_of_ble_eq_true rfl, Nat.le_of_ble_eq_true rfl⟩) hS (fun H locs hP hS => ?_)
  refine lv_istore (lv' := [(14, .int r74.1), (13, .int (1 + r73)), (12, .int r72), (0, .ref (wAd w 0)), (1, .int v1), (4, .ref (wAd w 92)), (5, .ref (wAd w 93)), (6, .ref (wAd w 94)), (7, .ref (wAd w 95)), (8, .ref (wAd w 96)), (9, .ref (wAd w 97)), (10, .ref (wAd w 98))]) C.1 C.2.1 dL_told_538 hl (by decide) rfl (fun ls hl => ?_)
  refine lv_iconst (v := 0) C.1 C.2.1 dL_told_540 (by decide) ?_
  refine lv_istore (lv' := [(15, .int 0), (14, .int r74.1), (13, .int (1 + r73)), (12, .int r72), (0, .ref (wAd w 0)), (1, .int v1), (4, .ref (wAd w 92)), (5, .ref (wAd w 93)), (6, .ref (wAd w 94)), (7, .ref (wAd w 95)), (8, .ref (wAd w 96)), (9, .ref (wAd w 97)), (10, .ref (wAd w 98))]) C.1 C.2.1 dL_told_541 hl (by decide) rfl (fun ls hl => ?_)
  refine lv_iconst (v := (-1)) C.1 C.2.1 dL_told_543 (by decide) ?_
  refine lv_istore (lv' := [(16, .int (-1)), (15, .int 0), (14, .int r74.1), (13, .int (1 + r73)), (12, .int r72), (0, .ref (wAd w 0)), (1, .int v1), (4, .ref (wAd w 92)), (5, .ref (wAd w 93)), (6, .ref (wAd w 94)), (7, .ref (wAd w 95)), (8, .ref (wAd w 96)), (9, .ref (wAd w 97)), (10, .ref (wAd w 98))]) C.1 C.2.1 dL_told_544 hl (by decide) rfl (fun ls hl => ?_)
  refine lv_iconst (v := 0) C.1 C.2.1 dL_told_546 (by decide) ?_
  refine lv_istore (lv' := [(17, .int 0), (16, .int (-1)), (15, .int 0), (14, .int r74.1), (13, .int (1 + r73)), (12, .int r72), (0, .ref (wAd w 0)), (1, .int v1), (4, .ref (wAd w 92)), (5, .ref (wAd w 93)), (6, .ref (wAd w 94)), (7, .ref (wAd w 95)), (8, .ref (wAd w 96)), (9, .ref (wAd w 97)), (10, .ref (wAd w 98))]) C.1 C.2.1 dL_told_547 hl (by decide) rfl (fun ls hl => ?_)
  obtain ⟨o88, ho88, hf⟩ := ob hf
  refine loop_at (w_L_told_l549 C hN hT) FU _ o88 ho88 ?_ _ _ _ hP hS (lv_sub hl [6, 8, 9, 10, 11, 12, 13, 14, 5, 4, 3, 2, 1, 0] rfl)
  intro H locs ls hP hS hl
  exact w_L_told_j667 C hN hT hf _ _ _ hP hS hl
