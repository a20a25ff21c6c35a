set_option maxHeartbeats 4000000 in
set_option maxRecDepth 100000 in
theorem w_X4_tally_l17 {b0 : Nat} {g1 : Nat} {w : WT} {l : Launch} {p : Program} {e : Env} {s : State} {m : MethodId} {args : Array Value} {below : List Frame} {meth : Method} {c : Code} (C : KC w p s m args meth c cX4_tally 3 RX4 none) (hb0 : isMn b0) (hg1 : isS g1) {L : Lng} {Q : State → Prop} (z : Int32 × Mem) (o : (Int32 × Mem) ⊕ (Mem)) (hf : f_X4_tally_l17 b0 g1 z = some o) (hA : ∀ z, o = .inl z → AtL w p l e ({ frames := 2, cells := 0, slots := 0, locals := 43 } : Room) s m args below meth c Q 3 17 z.2 L [(0, .ref (wAd w b0)), (1, .ref (wAd w g1)), (2, .int z.1)] []) (hE : ∀ y, o = .inr y → AtL w p l e ({ frames := 2, cells := 0, slots := 0, locals := 43 } : Room) s m args below meth c Q 3 98 y L [] []) : AtL w p l e ({ frames := 2, cells := 0, slots := 0, locals := 43 } : Room) s m args below meth c Q 3 17 z.2 L [(0, .ref (wAd w b0)), (1, .ref (wAd w g1)), (2, .int z.1)] [] := by
  intro H locs ls hP hS hl
  unfold f_X4_tally_l17 at hf
  refine lv_iload_n C.1 C.2.1 dX4_tally_17 rfl (lv_at hl 2 rfl) ?_
  refine lv_aload_n C.1 C.2.1 dX4_tally_18 rfl (lv_at hl 0 rfl) ?_
  refine k_get (v := .int (z.2 b0 3)) C hP (C9 C (lt_Minutes hb0)) (ob_Minutes hb0 w L _) rfl iX4 3 (by decide) q146 rfl dX4_tally_19 ?_
  refine lv_icmp_ge (tgt := 98) C.1 C.2.1 dX4_tally_22 (by decide) (fun c4 => ?_) (fun c4 => ?_)
  · have hf := (if_pos c4).symm.trans hf
    cases hf
    exact hE _ rfl _ _ _ hP hS (lv_sub hl [] rfl)
  · have hf := (if_neg c4).symm.trans hf
    refine lv_aload_n C.1 C.2.1 dX4_tally_25 rfl (lv_at hl 0 rfl) ?_
    refine lv_dup C.1 C.2.1 dX4_tally_26 rfl ?_
    refine k_get (v := .int (z.2 b0 4)) C hP (C9 C (lt_Minutes hb0)) (ob_Minutes hb0 w L _) rfl iX4 4 (by decide) q150 rfl dX4_tally_27 ?_
    refine lv_aload_n C.1 C.2.1 dX4_tally_30 rfl (lv_at hl 0 rfl) ?_
    refine lv_iload_n C.1 C.2.1 dX4_tally_31 rfl (lv_at hl 2 rfl) ?_
    obtain ⟨r5, hr5, hf⟩ := ob hf
    refine kci (kV (As := [.int z.1]) (rest := [.int (z.2 b0 4), .ref (wAd w b0)]) C hl.1 hP hS (c_X4_isCounted w l C.2.2.2.2.2.2.2.2 hb0 (L := L) hr5) (gV q555 q556 q557 q6 q558) hd_X4_isCounted (C9 C (lt_Minutes hb0)) (ob_Minutes hb0 w L _) rfl ⟨rfl, rfl⟩ ⟨Nat.le_of_ble_eq_true rfl, Nat.le_of_ble_eq_true rfl⟩ rfl rfl (Nat.le_of_ble_eq_true rfl) dX4_tally_32 ⟨Nat.zero_le _, Nat.zero_le _⟩) hS (fun H locs hP hS => ?_)
    refine lv_if_eq (tgt := 42) C.1 C.2.1 dX4_tally_35 (by decide) (fun c6 => ?_) (fun c6 => ?_)
    · have hf := (if_pos c6).symm.trans hf
      refine lv_iconst (v := 0) C.1 C.2.1 dX4_tally_42 (by decide) ?_
      exact w_X4_tally_j43 C hb0 hg1 hf hA hE _ _ _ hP hS hl
    · have hf := (if_neg c6).symm.trans hf
      refine lv_iconst (v := 1) C.1 C.2.1 dX4_tally_38 (by decide) ?_
      refine lv_goto (tgt := 43) C.1 C.2.1 dX4_tally_39 (by decide) ?_
      exact w_X4_tally_j43 C hb0 hg1 hf hA hE _ _ _ hP hS hl
set_option maxHeartbeats 4000000 in
set_option maxRecDepth 100000 in
theorem c_X4_tally (w : WT) (l : Launch) (hw : WOK w) {b0 : Nat} {g1 : Nat} (hb0 : isMn b0) (hg1 : isS g1) {M : Mem} {L : Lng} {out : Mem} (hf : f_X4_tally b0 g1 M = some out) : Met l yX4_tally (Cond.code yX4_tally cX4_tally 3 none :: BG) ({ frames := 2, cells := 0, slots := 0, locals := 43 } : Room) (PRE w [.ref (wAd w b0), .ref (wAd w g1)] M L) (QV w out L) 0 0 (wA w) := by
  refine kEnt hw (by decide +kernel) rfl (Nat.le_of_ble_eq_true rfl) ?_
  intro p e s m args below meth c C ls hl hP
  have hS : va_S (wA w) s.heap s.heap [] := va_S.rf
  have hl : lv_has ls 3 [(0, .ref (wAd w b0)), (1, .ref (wAd w g1))] := hl
  unfold f_X4_tally at hf
  refine lv_aload_n C.1 C.2.1 dX4_tally_0 rfl (lv_at hl 0 rfl) ?_
  refine lv_iconst (v := 0) C.1 C.2.1 dX4_tally_1 (by decide) ?_
  obtain ⟨M1, hM1, hf⟩ := ob hf
  refine k_puti C hP hS (C9 C (lt_Minutes hb0)) (fun row => ob_Minutes hb0 w L row) rfl iX4 tyX4 tyX4_ok nmX4 4 (by decide) q150 rfl rfl (Nat.le_of_ble_eq_true rfl) rfl hM1 dX4_tally_2 (fun H locs hP hS => ?_)
  refine lv_aload_n C.1 C.2.1 dX4_tally_5 rfl (lv_at hl 0 rfl) ?_
  refine lv_iconst (v := 0) C.1 C.2.1 dX4_tally_6 (by decide) ?_
  obtain ⟨M2, hM2, hf⟩ := ob hf
  refine k_puti C hP hS (C9 C (lt_Minutes hb0)) (fun row => ob_Minutes hb0 w L row) rfl iX4 tyX4 tyX4_ok nmX4 5 (by decide) q153 rfl rfl (Nat.le_of_ble_eq_true rfl) rfl hM2 dX4_tally_7 (fun H locs hP hS => ?_)
  refine lv_aload_n C.1 C.2.1 dX4_tally_10 rfl (lv_at hl 0 rfl) ?_
  refine lv_iconst (v := 0) C.1 C.2.1 dX4_tally_11 (by decide) ?_
  obtain ⟨M3, hM3, hf⟩ := ob hf
  refine k_puti C hP hS (C9 C (lt_Minutes hb0)) (fun row => ob_Minutes hb0 w L row) rfl iX4 tyX4 tyX4_ok nmX4 6 (by decide) q155 rfl rfl (Nat.le_of_ble_eq_true rfl) rfl hM3 dX4_tally_12 (fun H locs hP hS => ?_)
  refine lv_iconst (v := 0) C.1 C.2.1 dX4_tally_15 (by decide) ?_
  refine lv_istore_n (lv' := [(2, .int 0), (0, .ref (wAd w b0)), (1, .ref (wAd w g1))]) C.1 C.2.1 dX4_tally_16 rfl hl (by decide) rfl (fun ls hl => ?_)
  obtain ⟨o14, ho14, hf⟩ := ob hf
  refine loop_at (w_X4_tally_l17 C hb0 hg1) FU _ o14 ho14 ?_ _ _ _ hP hS (lv_sub hl [1, 2, 0] rfl)
  intro H locs ls hP hS hl
  cases hf
  exact krv C hP hS dX4_tally_98
theorem dX4_lastSlowPlace_0 : decode cX4_lastSlowPlace 0 = .ok (.aload_n 0, 1) := by decide +kernel
theorem dX4_lastSlowPlace_1 : decode cX4_lastSlowPlace 1 = .ok (.getfield 30, 3) := by decide +kernel
theorem dX4_lastSlowPlace_4 : decode cX4_lastSlowPlace 4 = .ok (.iconst 1, 1) := by decide +kernel
theorem dX4_lastSlowPlace_5 : decode cX4_lastSlowPlace 5 = .ok (.if_icmp .ge 7, 3) := by decide +kernel
theorem dX4_lastSlowPlace_8 : decode cX4_lastSlowPlace 8 = .ok (.iconst 0, 1) := by decide +kernel
theorem dX4_lastSlowPlace_9 : decode cX4_lastSlowPlace 9 = .ok (.goto 14, 3) := by decide +kernel
theorem dX4_lastSlowPlace_12 : decode cX4_lastSlowPlace 12 = .ok (.aload_n 0, 1) := by decide +kernel
theorem dX4_lastSlowPlace_13 : decode cX4_lastSlowPlace 13 = .ok (.getfield 15, 3) := by decide +kernel
theorem dX4_lastSlowPlace_16 : decode cX4_lastSlowPlace 16 = .ok (.aload_n 0, 1) := by decide +kernel
theorem dX4_lastSlowPlace_17 : decode cX4_lastSlowPlace 17 = .ok (.getfield 30, 3) := by decide +kernel
theorem dX4_lastSlowPlace_20 : decode cX4_lastSlowPlace 20 = .ok (.iconst 1, 1) := by decide +kernel
theorem dX4_lastSlowPlace_21 : decode cX4_lastSlowPlace 21 = .ok (.isub, 1) := by decide +kernel
theorem dX4_lastSlowPlace_22 : decode cX4_lastSlowPlace 22 = .ok (.iaload, 1) := by decide +kernel
theorem dX4_lastSlowPlace_23 : decode cX4_lastSlowPlace 23 = .ok (.ireturn, 1) := by decide +kernel
set_option maxHeartbeats 4000000 in
set_option maxRecDepth 100000 in
theorem c_X4_lastSlowPlace (w : WT) (l : Launch) (hw : WOK w) {b0 : Nat} (hb0 : isMn b0) {M : Mem} {L : Lng} {out : Int32} (hf : f_X4_lastSlowPlace b0 M = some out) : Met l yX4_lastSlowPlace (Cond.code yX4_lastSlowPlace cX4_lastSlowPlace 1 (some .int) :: BG) ({ frames := 0, cells := 0, slots := 0, locals := 0 } : Room) (PRE w [.ref (wAd w b0)] M L) (QI w out M L) 0 0 (wA w) := by
  refine kEnt hw (by decide +kernel) rfl (Nat.le_of_ble_eq_true rfl) ?_
  intro p e s m args below meth c C ls hl hP
  have hS : va_S (wA w) s.heap s.heap [] := va_S.rf
  have hl : lv_has ls 1 [(0, .ref (wAd w b0))] := hl
  unfold f_X4_lastSlowPlace at hf
  refine lv_aload_n C.1 C.2.1 dX4_lastSlowPlace_0 rfl (lv_at hl 0 rfl) ?_
  refine k_get (v := .int (M b0 3)) C hP (C9 C (lt_Minutes hb0)) (ob_Minutes hb0 w L _) rfl iX4 3 (by decide) q146 rfl dX4_lastSlowPlace_1 ?_
  refine lv_iconst (v := 1) C.1 C.2.1 dX4_lastSlowPlace_4 (by decide) ?_
  refine lv_icmp_ge (tgt := 12) C.1 C.2.1 dX4_lastSlowPlace_5 (by decide) (fun c1 => ?_) (fun c1 => ?_)
  · have hf := (if_pos c1).symm.trans hf
    refine lv_aload_n C.1 C.2.1 dX4_lastSlowPlace_12 rfl (lv_at hl 0 rfl) ?_
    refine k_get (v := .ref (wAd w (b0 + 2))) C hP (C9 C (lt_Minutes hb0)) (ob_Minutes hb0 w L _) rfl iX4 1 (by decide) q139 rfl dX4_lastSlowPlace_13 ?_
    refine lv_aload_n C.1 C.2.1 dX4_lastSlowPlace_16 rfl (lv_at hl 0 rfl) ?_
    refine k_get (v := .int (M b0 3)) C hP (C9 C (lt_Minutes hb0)) (ob_Minutes hb0 w L _) rfl iX4 3 (by decide) q146 rfl dX4_lastSlowPlace_17 ?_
    refine lv_iconst (v := 1) C.1 C.2.1 dX4_lastSlowPlace_20 (by decide) ?_
    refine lv_isub C.1 C.2.1 dX4_lastSlowPlace_21 ?_
    obtain ⟨x2, hx2, hf⟩ := ob hf
    refine k_iald C hP (C9 C (la_Minutes_slow hb0)) (ar_Minutes_slow hb0 w L _) hx2 dX4_lastSlowPlace_22 ?_
    cases hf
    exact kri C hP hS dX4_lastSlowPlace_23
  · have hf := (if_neg c1).symm.trans hf
    refine lv_iconst (v := 0) C.1 C.2.1 dX4_lastSlowPlace_8 (by decide) ?_
    refine lv_goto (tgt := 23) C.1 C.2.1 dX4_lastSlowPlace_9 (by decide) ?_
    cases hf
    exact kri C hP hS dX4_lastSlowPlace_23
theorem dX4_shareAbove_0 : decode cX4_shareAbove 0 = .ok (.aload_n 0, 1) := by decide +kernel
theorem dX4_shareAbove_1 : decode cX4_shareAbove 1 = .ok (.getfield 51, 3) := by decide +kernel
theorem dX4_shareAbove_4 : decode cX4_shareAbove 4 = .ok (.iconst 1, 1) := by decide +kernel
theorem dX4_shareAbove_5 : decode cX4_shareAbove 5 = .ok (.if_icmp .ge 7, 3) := by decide +kernel
theorem dX4_shareAbove_8 : decode cX4_shareAbove 8 = .ok (.dconst 0, 1) := by decide +kernel
theorem dX4_shareAbove_9 : decode cX4_shareAbove 9 = .ok (.goto 14, 3) := by decide +kernel
theorem dX4_shareAbove_12 : decode cX4_shareAbove 12 = .ok (.aload_n 0, 1) := by decide +kernel
theorem dX4_shareAbove_13 : decode cX4_shareAbove 13 = .ok (.getfield 57, 3) := by decide +kernel
theorem dX4_shareAbove_16 : decode cX4_shareAbove 16 = .ok (.i2d, 1) := by decide +kernel
theorem dX4_shareAbove_17 : decode cX4_shareAbove 17 = .ok (.aload_n 0, 1) := by decide +kernel
theorem dX4_shareAbove_18 : decode cX4_shareAbove 18 = .ok (.getfield 51, 3) := by decide +kernel
theorem dX4_shareAbove_21 : decode cX4_shareAbove 21 = .ok (.i2d, 1) := by decide +kernel
theorem dX4_shareAbove_22 : decode cX4_shareAbove 22 = .ok (.ddiv, 1) := by decide +kernel
theorem dX4_shareAbove_23 : decode cX4_shareAbove 23 = .ok (.dreturn, 1) := by decide +kernel
set_option maxHeartbeats 4000000 in
set_option maxRecDepth 100000 in
theorem c_X4_shareAbove (w : WT) (l : Launch) (hw : WOK w) {b0 : Nat} (hb0 : isMn b0) {M : Mem} {L : Lng} {out : UInt64} (hf : f_X4_shareAbove b0 M = some out) : Met l yX4_shareAbove (Cond.code yX4_shareAbove cX4_shareAbove 1 (some .double) :: BG) ({ frames := 0, cells := 0, slots := 0, locals := 0 } : Room) (PRE w [.ref (wAd w b0)] M L) (QD w out M L) 0 0 (wA w) := by
  refine kEnt hw (by decide +kernel) rfl (Nat.le_of_ble_eq_true rfl) ?_
  intro p e s m args below meth c C ls hl hP
  have hS : va_S (wA w) s.heap s.heap [] := va_S.rf
  have hl : lv_has ls 1 [(0, .ref (wAd w b0))] := hl
  unfold f_X4_shareAbove at hf
  refine lv_aload_n C.1 C.2.1 dX4_shareAbove_0 rfl (lv_at hl 0 rfl) ?_
  refine k_get (v := .int (M b0 4)) C hP (C9 C (lt_Minutes hb0)) (ob_Minutes hb0 w L _) rfl iX4 4 (by decide) q150 rfl dX4_shareAbove_1 ?_
  refine lv_iconst (v := 1) C.1 C.2.1 dX4_shareAbove_4 (by decide) ?_
  refine lv_icmp_ge (tgt := 12) C.1 C.2.1 dX4_shareAbove_5 (by decide) (fun c1 => ?_) (fun c1 => ?_)
  · have hf := (if_pos c1).symm.trans hf
    refine lv_aload_n C.1 C.2.1 dX4_shareAbove_12 rfl (lv_at hl 0 rfl) ?_
    refine k_get (v := .int (M b0 6)) C hP (C9 C (lt_Minutes hb0)) (ob_Minutes hb0 w L _) rfl iX4 6 (by decide) q155 rfl dX4_shareAbove_13 ?_
    refine lv_i2d C.1 C.2.1 dX4_shareAbove_16 ?_
    refine lv_aload_n C.1 C.2.1 dX4_shareAbove_17 rfl (lv_at hl 0 rfl) ?_
    refine k_get (v := .int (M b0 4)) C hP (C9 C (lt_Minutes hb0)) (ob_Minutes hb0 w L _) rfl iX4 4 (by decide) q150 rfl dX4_shareAbove_18 ?_
    refine lv_i2d C.1 C.2.1 dX4_shareAbove_21 ?_
    obtain ⟨x2, hx2, hf⟩ := ob hf
    refine k_ddiv C hx2 dX4_shareAbove_22 ?_
    cases hf
    exact krd C hP hS dX4_shareAbove_23
  · have hf := (if_neg c1).symm.trans hf
    refine lv_dconst0 C.1 C.2.1 dX4_shareAbove_8 ?_
    refine lv_goto (tgt := 23) C.1 C.2.1 dX4_shareAbove_9 (by decide) ?_
    cases hf
    exact krd C hP hS dX4_shareAbove_23
theorem dX5_hasMinute_0 : decode cX5_hasMinute 0 = .ok (.iload_n 1, 1) := by decide +kernel
theorem dX5_hasMinute_1 : decode cX5_hasMinute 1 = .ok (.ifCond .lt 15, 3) := by decide +kernel
theorem dX5_hasMinute_4 : decode cX5_hasMinute 4 = .ok (.iload_n 1, 1) := by decide +kernel
theorem dX5_hasMinute_5 : decode cX5_hasMinute 5 = .ok (.aload_n 0, 1) := by decide +kernel
theorem dX5_hasMinute_6 : decode cX5_hasMinute 6 = .ok (.getfield 32, 3) := by decide +kernel
theorem dX5_hasMinute_9 : decode cX5_hasMinute 9 = .ok (.if_icmp .ge 7, 3) := by decide +kernel
theorem dX5_hasMinute_12 : decode cX5_hasMinute 12 = .ok (.iconst 1, 1) := by decide +kernel
theorem dX5_hasMinute_13 : decode cX5_hasMinute 13 = .ok (.goto 4, 3) := by decide +kernel
theorem dX5_hasMinute_16 : decode cX5_hasMinute 16 = .ok (.iconst 0, 1) := by decide +kernel
theorem dX5_hasMinute_17 : decode cX5_hasMinute 17 = .ok (.ireturn, 1) := by decide +kernel
set_option maxHeartbeats 4000000 in
set_option maxRecDepth 100000 in
theorem c_X5_hasMinute (w : WT) (l : Launch) (hw : WOK w) {b0 : Nat} (hb0 : isSt b0) {a1 : Int32} {M : Mem} {L : Lng} {out : Int32} (hf : f_X5_hasMinute b0 a1 M = some out) : Met l yX5_hasMinute (Cond.code yX5_hasMinute cX5_hasMinute 2 (some .boolean) :: BG) ({ frames := 0, cells := 0, slots := 0, locals := 0 } : Room) (PRE w [.ref (wAd w b0), .int a1] M L) (QI w out M L) 0 0 (wA w) := by
  refine kEnt hw (by decide +kernel) rfl (Nat.le_of_ble_eq_true rfl) ?_
  intro p e s m args below meth c C ls hl hP
  have hS : va_S (wA w) s.heap s.heap [] := va_S.rf
  have hl : lv_has ls 2 [(0, .ref (wAd w b0)), (1, .int a1)] := hl
  unfold f_X5_hasMinute at hf
  refine lv_iload_n C.1 C.2.1 dX5_hasMinute_0 rfl (lv_at hl 1 rfl) ?_
  refine lv_if_lt (tgt := 16) C.1 C.2.1 dX5_hasMinute_1 (by decide) (fun c1 => ?_) (fun c1 => ?_)
  · have hf := (if_pos c1).symm.trans hf
    refine lv_iconst (v := 0) C.1 C.2.1 dX5_hasMinute_16 (by decide) ?_
    cases hf
    exact krz C hP hS bz0 dX5_hasMinute_17
  · have hf := (if_neg c1).symm.trans hf
    refine lv_iload_n C.1 C.2.1 dX5_hasMinute_4 rfl (lv_at hl 1 rfl) ?_
    refine lv_aload_n C.1 C.2.1 dX5_hasMinute_5 rfl (lv_at hl 0 rfl) ?_
    refine k_get (v := .int (M b0 4)) C hP (C9 C (lt_State hb0)) (ob_State hb0 w L _) rfl iX5 4 (by decide) q53 rfl dX5_hasMinute_6 ?_
    refine lv_icmp_ge (tgt := 16) C.1 C.2.1 dX5_hasMinute_9 (by decide) (fun c2 => ?_) (fun c2 => ?_)
    · have hf := (if_pos c2).symm.trans hf
      refine lv_iconst (v := 0) C.1 C.2.1 dX5_hasMinute_16 (by decide) ?_
      cases hf
      exact krz C hP hS bz0 dX5_hasMinute_17
    · have hf := (if_neg c2).symm.trans hf
      refine lv_iconst (v := 1) C.1 C.2.1 dX5_hasMinute_12 (by decide) ?_
      refine lv_goto (tgt := 17) C.1 C.2.1 dX5_hasMinute_13 (by decide) ?_
      cases hf
      exact krz C hP hS bz1 dX5_hasMinute_17
theorem dX5_hasComplaint_0 : decode cX5_hasComplaint 0 = .ok (.iload_n 1, 1) := by decide +kernel
theorem dX5_hasComplaint_1 : decode cX5_hasComplaint 1 = .ok (.ifCond .lt 15, 3) := by decide +kernel
theorem dX5_hasComplaint_4 : decode cX5_hasComplaint 4 = .ok (.iload_n 1, 1) := by decide +kernel
theorem dX5_hasComplaint_5 : decode cX5_hasComplaint 5 = .ok (.aload_n 0, 1) := by decide +kernel
theorem dX5_hasComplaint_6 : decode cX5_hasComplaint 6 = .ok (.getfield 36, 3) := by decide +kernel
theorem dX5_hasComplaint_9 : decode cX5_hasComplaint 9 = .ok (.if_icmp .ge 7, 3) := by decide +kernel
theorem dX5_hasComplaint_12 : decode cX5_hasComplaint 12 = .ok (.iconst 1, 1) := by decide +kernel
theorem dX5_hasComplaint_13 : decode cX5_hasComplaint 13 = .ok (.goto 4, 3) := by decide +kernel
theorem dX5_hasComplaint_16 : decode cX5_hasComplaint 16 = .ok (.iconst 0, 1) := by decide +kernel
theorem dX5_hasComplaint_17 : decode cX5_hasComplaint 17 = .ok (.ireturn, 1) := by decide +kernel
set_option maxHeartbeats 4000000 in
set_option maxRecDepth 100000 in
theorem c_X5_hasComplaint (w : WT) (l : Launch) (hw : WOK w) {b0 : Nat} (hb0 : isSt b0) {a1 : Int32} {M : Mem} {L : Lng} {out : Int32} (hf : f_X5_hasComplaint b0 a1 M = some out) : Met l yX5_hasComplaint (Cond.code yX5_hasComplaint cX5_hasComplaint 2 (some .boolean) :: BG) ({ frames := 0, cells := 0, slots := 0, locals := 0 } : Room) (PRE w [.ref (wAd w b0), .int a1] M L) (QI w out M L) 0 0 (wA w) := by
  refine kEnt hw (by decide +kernel) rfl (Nat.le_of_ble_eq_true rfl) ?_
  intro p e s m args below meth c C ls hl hP
  have hS : va_S (wA w) s.heap s.heap [] := va_S.rf
  have hl : lv_has ls 2 [(0, .ref (wAd w b0)), (1, .int a1)] := hl
  unfold f_X5_hasComplaint at hf
  refine lv_iload_n C.1 C.2.1 dX5_hasComplaint_0 rfl (lv_at hl 1 rfl) ?_
  refine lv_if_lt (tgt := 16) C.1 C.2.1 dX5_hasComplaint_1 (by decide) (fun c1 => ?_) (fun c1 => ?_)
  · have hf := (if_pos c1).symm.trans hf
    refine lv_iconst (v := 0) C.1 C.2.1 dX5_hasComplaint_16 (by decide) ?_
    cases hf
    exact krz C hP hS bz0 dX5_hasComplaint_17
  · have hf := (if_neg c1).symm.trans hf
    refine lv_iload_n C.1 C.2.1 dX5_hasComplaint_4 rfl (lv_at hl 1 rfl) ?_
    refine lv_aload_n C.1 C.2.1 dX5_hasComplaint_5 rfl (lv_at hl 0 rfl) ?_
    refine k_get (v := .int (M b0 5)) C hP (C9 C (lt_State hb0)) (ob_State hb0 w L _) rfl iX5 5 (by decide) q56 rfl dX5_hasComplaint_6 ?_
    refine lv_icmp_ge (tgt := 16) C.1 C.2.1 dX5_hasComplaint_9 (by decide) (fun c2 => ?_) (fun c2 => ?_)
    · have hf := (if_pos c2).symm.trans hf
      refine lv_iconst (v := 0) C.1 C.2.1 dX5_hasComplaint_16 (by decide) ?_
      cases hf
      exact krz C hP hS bz0 dX5_hasComplaint_17
    · have hf := (if_neg c2).symm.trans hf
      refine lv_iconst (v := 1) C.1 C.2.1 dX5_hasComplaint_12 (by decide) ?_
      refine lv_goto (tgt := 17) C.1 C.2.1 dX5_hasComplaint_13 (by decide) ?_
      cases hf
      exact krz C hP hS bz1 dX5_hasComplaint_17
theorem dX5_addMinutes_0 : decode cX5_addMinutes 0 = .ok (.iconst 0, 1) := by decide +kernel
theorem dX5_addMinutes_1 : decode cX5_addMinutes 1 = .ok (.istore 4, 2) := by decide +kernel
theorem dX5_addMinutes_3 : decode cX5_addMinutes 3 = .ok (.iload 4, 2) := by decide +kernel
theorem dX5_addMinutes_5 : decode cX5_addMinutes 5 = .ok (.iload_n 3, 1) := by decide +kernel
theorem dX5_addMinutes_6 : decode cX5_addMinutes 6 = .ok (.if_icmp .ge 49, 3) := by decide +kernel
theorem dX5_addMinutes_9 : decode cX5_addMinutes 9 = .ok (.aload_n 0, 1) := by decide +kernel
theorem dX5_addMinutes_10 : decode cX5_addMinutes 10 = .ok (.getfield 32, 3) := by decide +kernel
theorem dX5_addMinutes_13 : decode cX5_addMinutes 13 = .ok (.sipush 200, 3) := by decide +kernel
theorem dX5_addMinutes_16 : decode cX5_addMinutes 16 = .ok (.if_icmp .ge 39, 3) := by decide +kernel
theorem dX5_addMinutes_19 : decode cX5_addMinutes 19 = .ok (.aload_n 0, 1) := by decide +kernel
theorem dX5_addMinutes_20 : decode cX5_addMinutes 20 = .ok (.getfield 9, 3) := by decide +kernel
theorem dX5_addMinutes_23 : decode cX5_addMinutes 23 = .ok (.aload_n 0, 1) := by decide +kernel
theorem dX5_addMinutes_24 : decode cX5_addMinutes 24 = .ok (.getfield 32, 3) := by decide +kernel
theorem dX5_addMinutes_27 : decode cX5_addMinutes 27 = .ok (.iload_n 1, 1) := by decide +kernel
theorem dX5_addMinutes_28 : decode cX5_addMinutes 28 = .ok (.iastore, 1) := by decide +kernel
theorem dX5_addMinutes_29 : decode cX5_addMinutes 29 = .ok (.aload_n 0, 1) := by decide +kernel
theorem dX5_addMinutes_30 : decode cX5_addMinutes 30 = .ok (.getfield 15, 3) := by decide +kernel
theorem dX5_addMinutes_33 : decode cX5_addMinutes 33 = .ok (.aload_n 0, 1) := by decide +kernel
theorem dX5_addMinutes_34 : decode cX5_addMinutes 34 = .ok (.getfield 32, 3) := by decide +kernel
theorem dX5_addMinutes_37 : decode cX5_addMinutes 37 = .ok (.iload_n 2, 1) := by decide +kernel
theorem dX5_addMinutes_38 : decode cX5_addMinutes 38 = .ok (.iastore, 1) := by decide +kernel
theorem dX5_addMinutes_39 : decode cX5_addMinutes 39 = .ok (.aload_n 0, 1) := by decide +kernel
theorem dX5_addMinutes_40 : decode cX5_addMinutes 40 = .ok (.dup, 1) := by decide +kernel
theorem dX5_addMinutes_41 : decode cX5_addMinutes 41 = .ok (.getfield 32, 3) := by decide +kernel
theorem dX5_addMinutes_44 : decode cX5_addMinutes 44 = .ok (.iconst 1, 1) := by decide +kernel
theorem dX5_addMinutes_45 : decode cX5_addMinutes 45 = .ok (.iadd, 1) := by decide +kernel
theorem dX5_addMinutes_46 : decode cX5_addMinutes 46 = .ok (.putfield 32, 3) := by decide +kernel
theorem dX5_addMinutes_49 : decode cX5_addMinutes 49 = .ok (.iinc 4 1, 3) := by decide +kernel
theorem dX5_addMinutes_52 : decode cX5_addMinutes 52 = .ok (.goto (-49), 3) := by decide +kernel
theorem dX5_addMinutes_55 : decode cX5_addMinutes 55 = .ok (.return_, 1) := by decide +kernel
set_option maxHeartbeats 4000000 in
set_option maxRecDepth 100000 in
theorem w_X5_addMinutes_l3 {b0 : Nat} {w : WT} {l : Launch} {p : Program} {e : Env} {s : State} {m : MethodId} {args : Array Value} {below : List Frame} {meth : Method} {c : Code} (C : KC w p s m args meth c cX5_addMinutes 5 RX5 none) (hb0 : isSt b0) {v1 : Int32} {v2 : Int32} {v3 : Int32} {L : Lng} {Q : State → Prop} (z : Int32 × Mem) (o : (Int32 × Mem) ⊕ (Mem)) (hf : f_X5_addMinutes_l3 b0 v1 v2 v3 z = some o) (hA : ∀ z, o = .inl z → AtL w p l e ({ frames := 0, cells := 0, slots := 0, locals := 0 } : Room) s m args below meth c Q 5 3 z.2 L [(0, .ref (wAd w b0)), (1, .int v1), (2, .int v2), (3, .int v3), (4, .int z.1)] []) (hE : ∀ y, o = .inr y → AtL w p l e ({ frames := 0, cells := 0, slots := 0, locals := 0 } : Room) s m args below meth c Q 5 55 y L [] []) : AtL w p l e ({ frames := 0, cells := 0, slots := 0, locals := 0 } : Room) s m args below meth c Q 5 3 z.2 L [(0, .ref (wAd w b0)), (1, .int v1), (2, .int v2), (3, .int v3), (4, .int z.1)] [] := by
  intro H locs ls hP hS hl
  unfold f_X5_addMinutes_l3 at hf
  refine lv_iload C.1 C.2.1 dX5_addMinutes_3 (lv_at hl 4 rfl) ?_
  refine lv_iload_n C.1 C.2.1 dX5_addMinutes_5 rfl (lv_at hl 3 rfl) ?_
  refine lv_icmp_ge (tgt := 55) C.1 C.2.1 dX5_addMinutes_6 (by decide) (fun c1 => ?_) (fun c1 => ?_)
  · have hf := (if_pos c1).symm.trans hf
    cases hf
    exact hE _ rfl _ _ _ hP hS (lv_sub hl [] rfl)
  · have hf := (if_neg c1).symm.trans hf
    refine lv_aload_n C.1 C.2.1 dX5_addMinutes_9 rfl (lv_at hl 0 rfl) ?_
    refine k_get (v := .int (z.2 b0 4)) C hP (C9 C (lt_State hb0)) (ob_State hb0 w L _) rfl iX5 4 (by decide) q53 rfl dX5_addMinutes_10 ?_
    refine lv_sipush (v := 200) C.1 C.2.1 dX5_addMinutes_13 (by decide) ?_
    refine lv_icmp_ge (tgt := 55) C.1 C.2.1 dX5_addMinutes_16 (by decide) (fun c2 => ?_) (fun c2 => ?_)
    · have hf := (if_pos c2).symm.trans hf
      cases hf
      exact hE _ rfl _ _ _ hP hS (lv_sub hl [] rfl)
    · have hf := (if_neg c2).symm.trans hf
      refine lv_aload_n C.1 C.2.1 dX5_addMinutes_19 rfl (lv_at hl 0 rfl) ?_
      refine k_get (v := .ref (wAd w (b0 + 1))) C hP (C9 C (lt_State hb0)) (ob_State hb0 w L _) rfl iX5 0 (by decide) q41 rfl dX5_addMinutes_20 ?_
      refine lv_aload_n C.1 C.2.1 dX5_addMinutes_23 rfl (lv_at hl 0 rfl) ?_
      refine k_get (v := .int (z.2 b0 4)) C hP (C9 C (lt_State hb0)) (ob_State hb0 w L _) rfl iX5 4 (by decide) q53 rfl dX5_addMinutes_24 ?_
      refine lv_iload_n C.1 C.2.1 dX5_addMinutes_27 rfl (lv_at hl 1 rfl) ?_
      obtain ⟨M3, hM3, hf⟩ := ob hf
      refine k_iast C hP hS (C9 C (la_State_levels hb0)) (ar_State_levels hb0 w L) hM3 dX5_addMinutes_28 (fun H locs hP hS => ?_)
      refine lv_aload_n C.1 C.2.1 dX5_addMinutes_29 rfl (lv_at hl 0 rfl) ?_
      refine k_get (v := .ref (wAd w (b0 + 2))) C hP (C9 C (lt_State hb0)) (ob_State hb0 w L _) rfl iX5 1 (by decide) q44 rfl dX5_addMinutes_30 ?_
      refine lv_aload_n C.1 C.2.1 dX5_addMinutes_33 rfl (lv_at hl 0 rfl) ?_
      refine k_get (v := .int (M3 b0 4)) C hP (C9 C (lt_State hb0)) (ob_State hb0 w L _) rfl iX5 4 (by decide) q53 rfl dX5_addMinutes_34 ?_
      refine lv_iload_n C.1 C.2.1 dX5_addMinutes_37 rfl (lv_at hl 2 rfl) ?_
      obtain ⟨M4, hM4, hf⟩ := ob hf
      refine k_iast C hP hS (C9 C (la_State_winds hb0)) (ar_State_winds hb0 w L) hM4 dX5_addMinutes_38 (fun H locs hP hS => ?_)
      refine lv_aload_n C.1 C.2.1 dX5_addMinutes_39 rfl (lv_at hl 0 rfl) ?_
      refine lv_dup C.1 C.2.1 dX5_addMinutes_40 rfl ?_
      refine k_get (v := .int (M4 b0 4)) C hP (C9 C (lt_State hb0)) (ob_State hb0 w L _) rfl iX5 4 (by decide) q53 rfl dX5_addMinutes_41 ?_
      refine lv_iconst (v := 1) C.1 C.2.1 dX5_addMinutes_44 (by decide) ?_
      refine lv_iadd C.1 C.2.1 dX5_addMinutes_45 ?_
      obtain ⟨M5, hM5, hf⟩ := ob hf
      refine k_puti C hP hS (C9 C (lt_State hb0)) (fun row => ob_State hb0 w L row) rfl iX5 tyX5 tyX5_ok nmX5 4 (by decide) q53 rfl rfl (Nat.le_of_ble_eq_true rfl) rfl hM5 dX5_addMinutes_46 (fun H locs hP hS => ?_)
      refine lv_iinc (v := (z.1 + 1)) (lv' := [(4, .int (z.1 + 1)), (0, .ref (wAd w b0)), (1, .int v1), (2, .int v2), (3, .int v3)]) C.1 C.2.1 dX5_addMinutes_49 hl (k := 4) rfl rfl (by decide) rfl (fun ls hl => ?_)
      refine lv_goto (tgt := 3) C.1 C.2.1 dX5_addMinutes_52 (by decide) ?_
      cases hf
      exact hA _ rfl _ _ _ hP hS (lv_sub hl [1, 2, 3, 4, 0] rfl)
set_option maxHeartbeats 4000000 in
set_option maxRecDepth 100000 in
theorem c_X5_addMinutes (w : WT) (l : Launch) (hw : WOK w) {b0 : Nat} (hb0 : isSt b0) {a1 : Int32} {a2 : Int32} {a3 : Int32} {M : Mem} {L : Lng} {out : Mem} (hf : f_X5_addMinutes b0 a1 a2 a3 M = some out) : Met l yX5_addMinutes (Cond.code yX5_addMinutes cX5_addMinutes 5 none :: BG) ({ frames := 0, cells := 0, slots := 0, locals := 0 } : Room) (PRE w [.ref (wAd w b0), .int a1, .int a2, .int a3] M L) (QV w out L) 0 0 (wA w) := by
  refine kEnt hw (by decide +kernel) rfl (Nat.le_of_ble_eq_true rfl) ?_
  intro p e s m args below meth c C ls hl hP
  have hS : va_S (wA w) s.heap s.heap [] := va_S.rf
  have hl : lv_has ls 5 [(0, .ref (wAd w b0)), (1, .int a1), (2, .int a2), (3, .int a3)] := hl
  unfold f_X5_addMinutes at hf
  refine lv_iconst (v := 0) C.1 C.2.1 dX5_addMinutes_0 (by decide) ?_
  refine lv_istore (lv' := [(4, .int 0), (0, .ref (wAd w b0)), (1, .int a1), (2, .int a2), (3, .int a3)]) C.1 C.2.1 dX5_addMinutes_1 hl (by decide) rfl (fun ls hl => ?_)
  obtain ⟨o6, ho6, hf⟩ := ob hf
  refine loop_at (w_X5_addMinutes_l3 C hb0) FU _ o6 ho6 ?_ _ _ _ hP hS (lv_sub hl [1, 2, 3, 4, 0] rfl)
  intro H locs ls hP hS hl
  cases hf
  exact krv C hP hS dX5_addMinutes_55
theorem dX5_dropMinutes_0 : decode cX5_dropMinutes 0 = .ok (.aload_n 0, 1) := by decide +kernel
theorem dX5_dropMinutes_1 : decode cX5_dropMinutes 1 = .ok (.getfield 32, 3) := by decide +kernel
theorem dX5_dropMinutes_4 : decode cX5_dropMinutes 4 = .ok (.iload_n 1, 1) := by decide +kernel
theorem dX5_dropMinutes_5 : decode cX5_dropMinutes 5 = .ok (.isub, 1) := by decide +kernel
theorem dX5_dropMinutes_6 : decode cX5_dropMinutes 6 = .ok (.istore_n 2, 1) := by decide +kernel
theorem dX5_dropMinutes_7 : decode cX5_dropMinutes 7 = .ok (.iconst 0, 1) := by decide +kernel
theorem dX5_dropMinutes_8 : decode cX5_dropMinutes 8 = .ok (.istore_n 3, 1) := by decide +kernel
theorem dX5_dropMinutes_9 : decode cX5_dropMinutes 9 = .ok (.iload_n 3, 1) := by decide +kernel
theorem dX5_dropMinutes_10 : decode cX5_dropMinutes 10 = .ok (.iload_n 2, 1) := by decide +kernel
theorem dX5_dropMinutes_11 : decode cX5_dropMinutes 11 = .ok (.if_icmp .ge 37, 3) := by decide +kernel
theorem dX5_dropMinutes_14 : decode cX5_dropMinutes 14 = .ok (.aload_n 0, 1) := by decide +kernel
theorem dX5_dropMinutes_15 : decode cX5_dropMinutes 15 = .ok (.getfield 9, 3) := by decide +kernel
theorem dX5_dropMinutes_18 : decode cX5_dropMinutes 18 = .ok (.iload_n 3, 1) := by decide +kernel
theorem dX5_dropMinutes_19 : decode cX5_dropMinutes 19 = .ok (.aload_n 0, 1) := by decide +kernel
theorem dX5_dropMinutes_20 : decode cX5_dropMinutes 20 = .ok (.getfield 9, 3) := by decide +kernel
theorem dX5_dropMinutes_23 : decode cX5_dropMinutes 23 = .ok (.iload_n 3, 1) := by decide +kernel
theorem dX5_dropMinutes_24 : decode cX5_dropMinutes 24 = .ok (.iload_n 1, 1) := by decide +kernel
theorem dX5_dropMinutes_25 : decode cX5_dropMinutes 25 = .ok (.iadd, 1) := by decide +kernel
theorem dX5_dropMinutes_26 : decode cX5_dropMinutes 26 = .ok (.iaload, 1) := by decide +kernel
theorem dX5_dropMinutes_27 : decode cX5_dropMinutes 27 = .ok (.iastore, 1) := by decide +kernel
theorem dX5_dropMinutes_28 : decode cX5_dropMinutes 28 = .ok (.aload_n 0, 1) := by decide +kernel
theorem dX5_dropMinutes_29 : decode cX5_dropMinutes 29 = .ok (.getfield 15, 3) := by decide +kernel
theorem dX5_dropMinutes_32 : decode cX5_dropMinutes 32 = .ok (.iload_n 3, 1) := by decide +kernel
theorem dX5_dropMinutes_33 : decode cX5_dropMinutes 33 = .ok (.aload_n 0, 1) := by decide +kernel
theorem dX5_dropMinutes_34 : decode cX5_dropMinutes 34 = .ok (.getfield 15, 3) := by decide +kernel
theorem dX5_dropMinutes_37 : decode cX5_dropMinutes 37 = .ok (.iload_n 3, 1) := by decide +kernel
theorem dX5_dropMinutes_38 : decode cX5_dropMinutes 38 = .ok (.iload_n 1, 1) := by decide +kernel
theorem dX5_dropMinutes_39 : decode cX5_dropMinutes 39 = .ok (.iadd, 1) := by decide +kernel
theorem dX5_dropMinutes_40 : decode cX5_dropMinutes 40 = .ok (.iaload, 1) := by decide +kernel
theorem dX5_dropMinutes_41 : decode cX5_dropMinutes 41 = .ok (.iastore, 1) := by decide +kernel
theorem dX5_dropMinutes_42 : decode cX5_dropMinutes 42 = .ok (.iinc 3 1, 3) := by decide +kernel
theorem dX5_dropMinutes_45 : decode cX5_dropMinutes 45 = .ok (.goto (-36), 3) := by decide +kernel
theorem dX5_dropMinutes_48 : decode cX5_dropMinutes 48 = .ok (.aload_n 0, 1) := by decide +kernel
theorem dX5_dropMinutes_49 : decode cX5_dropMinutes 49 = .ok (.iload_n 2, 1) := by decide +kernel
theorem dX5_dropMinutes_50 : decode cX5_dropMinutes 50 = .ok (.putfield 32, 3) := by decide +kernel
theorem dX5_dropMinutes_53 : decode cX5_dropMinutes 53 = .ok (.iconst 0, 1) := by decide +kernel
theorem dX5_dropMinutes_54 : decode cX5_dropMinutes 54 = .ok (.istore_n 3, 1) := by decide +kernel
theorem dX5_dropMinutes_55 : decode cX5_dropMinutes 55 = .ok (.iload_n 3, 1) := by decide +kernel
theorem dX5_dropMinutes_56 : decode cX5_dropMinutes 56 = .ok (.aload_n 0, 1) := by decide +kernel
theorem dX5_dropMinutes_57 : decode cX5_dropMinutes 57 = .ok (.getfield 36, 3) := by decide +kernel
theorem dX5_dropMinutes_60 : decode cX5_dropMinutes 60 = .ok (.if_icmp .ge 27, 3) := by decide +kernel
theorem dX5_dropMinutes_63 : decode cX5_dropMinutes 63 = .ok (.aload_n 0, 1) := by decide +kernel
theorem dX5_dropMinutes_64 : decode cX5_dropMinutes 64 = .ok (.getfield 29, 3) := by decide +kernel
theorem dX5_dropMinutes_67 : decode cX5_dropMinutes 67 = .ok (.iload_n 3, 1) := by decide +kernel
theorem dX5_dropMinutes_68 : decode cX5_dropMinutes 68 = .ok (.iconst 0, 1) := by decide +kernel
theorem dX5_dropMinutes_69 : decode cX5_dropMinutes 69 = .ok (.aload_n 0, 1) := by decide +kernel
theorem dX5_dropMinutes_70 : decode cX5_dropMinutes 70 = .ok (.getfield 29, 3) := by decide +kernel
theorem dX5_dropMinutes_73 : decode cX5_dropMinutes 73 = .ok (.iload_n 3, 1) := by decide +kernel
theorem dX5_dropMinutes_74 : decode cX5_dropMinutes 74 = .ok (.iaload, 1) := by decide +kernel
theorem dX5_dropMinutes_75 : decode cX5_dropMinutes 75 = .ok (.iload_n 1, 1) := by decide +kernel
theorem dX5_dropMinutes_76 : decode cX5_dropMinutes 76 = .ok (.isub, 1) := by decide +kernel
theorem dX5_dropMinutes_77 : decode cX5_dropMinutes 77 = .ok (.invokestatic 39, 3) := by decide +kernel
theorem dX5_dropMinutes_80 : decode cX5_dropMinutes 80 = .ok (.iastore, 1) := by decide +kernel
theorem dX5_dropMinutes_81 : decode cX5_dropMinutes 81 = .ok (.iinc 3 1, 3) := by decide +kernel
theorem dX5_dropMinutes_84 : decode cX5_dropMinutes 84 = .ok (.goto (-29), 3) := by decide +kernel
theorem dX5_dropMinutes_87 : decode cX5_dropMinutes 87 = .ok (.return_, 1) := by decide +kernel
set_option maxHeartbeats 4000000 in
set_option maxRecDepth 100000 in
theorem w_X5_dropMinutes_l9 {b0 : Nat} {w : WT} {l : Launch} {p : Program} {e : Env} {s : State} {m : MethodId} {args : Array Value} {below : List Frame} {meth : Method} {c : Code} (C : KC w p s m args meth c cX5_dropMinutes 4 RX5 none) (hb0 : isSt b0) {v1 : Int32} {v2 : Int32} {L : Lng} {Q : State → Prop} (z : Int32 × Mem) (o : (Int32 × Mem) ⊕ (Mem)) (hf : f_X5_dropMinutes_l9 b0 v1 v2 z = some o) (hA : ∀ z, o = .inl z → AtL w p l e ({ frames := 1, cells := 0, slots := 0, locals := 21 } : Room) s m args below meth c Q 4 9 z.2 L [(0, .ref (wAd w b0)), (1, .int v1), (2, .int v2), (3, .int z.1)] []) (hE : ∀ y, o = .inr y → AtL w p l e ({ frames := 1, cells := 0, slots := 0, locals := 21 } : Room) s m args below meth c Q 4 48 y L [(0, .ref (wAd w b0)), (1, .int v1), (2, .int v2)] []) : AtL w p l e ({ frames := 1, cells := 0, slots := 0, locals := 21 } : Room) s m args below meth c Q 4 9 z.2 L [(0, .ref (wAd w b0)), (1, .int v1), (2, .int v2), (3, .int z.1)] [] := by
  intro H locs ls hP hS hl
  unfold f_X5_dropMinutes_l9 at hf
  refine lv_iload_n C.1 C.2.1 dX5_dropMinutes_9 rfl (lv_at hl 3 rfl) ?_
  refine lv_iload_n C.1 C.2.1 dX5_dropMinutes_10 rfl (lv_at hl 2 rfl) ?_
  refine lv_icmp_ge (tgt := 48) C.1 C.2.1 dX5_dropMinutes_11 (by decide) (fun c1 => ?_) (fun c1 => ?_)
  · have hf := (if_pos c1).symm.trans hf
    cases hf
    exact hE _ rfl _ _ _ hP hS (lv_sub hl [0, 1, 2] rfl)
  · have hf := (if_neg c1).symm.trans hf
    refine lv_aload_n C.1 C.2.1 dX5_dropMinutes_14 rfl (lv_at hl 0 rfl) ?_
    refine k_get (v := .ref (wAd w (b0 + 1))) C hP (C9 C (lt_State hb0)) (ob_State hb0 w L _) rfl iX5 0 (by decide) q41 rfl dX5_dropMinutes_15 ?_
    refine lv_iload_n C.1 C.2.1 dX5_dropMinutes_18 rfl (lv_at hl 3 rfl) ?_
    refine lv_aload_n C.1 C.2.1 dX5_dropMinutes_19 rfl (lv_at hl 0 rfl) ?_
    refine k_get (v := .ref (wAd w (b0 + 1))) C hP (C9 C (lt_State hb0)) (ob_State hb0 w L _) rfl iX5 0 (by decide) q41 rfl dX5_dropMinutes_20 ?_
    refine lv_iload_n C.1 C.2.1 dX5_dropMinutes_23 rfl (lv_at hl 3 rfl) ?_
    refine lv_iload_n C.1 C.2.1 dX5_dropMinutes_24 rfl (lv_at hl 1 rfl) ?_
    refine lv_iadd C.1 C.2.1 dX5_dropMinutes_25 ?_
    obtain ⟨x2, hx2, hf⟩ := ob hf
    refine k_iald C hP (C9 C (la_State_levels hb0)) (ar_State_levels hb0 w L _) hx2 dX5_dropMinutes_26 ?_
    obtain ⟨M3, hM3, hf⟩ := ob hf
    refine k_iast C hP hS (C9 C (la_State_levels hb0)) (ar_State_levels hb0 w L) hM3 dX5_dropMinutes_27 (fun H locs hP hS => ?_)
    refine lv_aload_n C.1 C.2.1 dX5_dropMinutes_28 rfl (lv_at hl 0 rfl) ?_
    refine k_get (v := .ref (wAd w (b0 + 2))) C hP (C9 C (lt_State hb0)) (ob_State hb0 w L _) rfl iX5 1 (by decide) q44 rfl dX5_dropMinutes_29 ?_
    refine lv_iload_n C.1 C.2.1 dX5_dropMinutes_32 rfl (lv_at hl 3 rfl) ?_
    refine lv_aload_n C.1 C.2.1 dX5_dropMinutes_33 rfl (lv_at hl 0 rfl) ?_
    refine k_get (v := .ref (wAd w (b0 + 2))) C hP (C9 C (lt_State hb0)) (ob_State hb0 w L _) rfl iX5 1 (by decide) q44 rfl dX5_dropMinutes_34 ?_
    refine lv_iload_n C.1 C.2.1 dX5_dropMinutes_37 rfl (lv_at hl 3 rfl) ?_
    refine lv_iload_n C.1 C.2.1 dX5_dropMinutes_38 rfl (lv_at hl 1 rfl) ?_
    refine lv_iadd C.1 C.2.1 dX5_dropMinutes_39 ?_
    obtain ⟨x4, hx4, hf⟩ := ob hf
    refine k_iald C hP (C9 C (la_State_winds hb0)) (ar_State_winds hb0 w L _) hx4 dX5_dropMinutes_40 ?_
    obtain ⟨M5, hM5, hf⟩ := ob hf
    refine k_iast C hP hS (C9 C (la_State_winds hb0)) (ar_State_winds hb0 w L) hM5 dX5_dropMinutes_41 (fun H locs hP hS => ?_)
    refine lv_iinc (v := (z.1 + 1)) (lv' := [(3, .int (z.1 + 1)), (0, .ref (wAd w b0)), (1, .int v1), (2, .int v2)]) C.1 C.2.1 dX5_dropMinutes_42 hl (k := 3) rfl rfl (by decide) rfl (fun ls hl => ?_)
    refine lv_goto (tgt := 9) C.1 C.2.1 dX5_dropMinutes_45 (by decide) ?_
    cases hf
    exact hA _ rfl _ _ _ hP hS (lv_sub hl [1, 2, 3, 0] rfl)
set_option maxHeartbeats 4000000 in
set_option maxRecDepth 100000 in
theorem w_X5_dropMinutes_l55 {b0 : Nat} {w : WT} {l : Launch} {p : Program} {e : Env} {s : State} {m : MethodId} {args : Array Value} {below : List Frame} {meth : Method} {c : Code} (C : KC w p s m args meth c cX5_dropMinutes 4 RX5 none) (hb0 : isSt b0) {v1 : Int32} {L : Lng} {Q : State → Prop} (z : Int32 × Mem) (o : (Int32 × Mem) ⊕ (Mem)) (hf : f_X5_dropMinutes_l55 b0 v1 z = some o) (hA : ∀ z, o = .inl z → AtL w p l e ({ frames := 1, cells := 0, slots := 0, locals := 21 } : Room) s m args below meth c Q 4 55 z.2 L [(0, .ref (wAd w b0)), (1, .int v1), (3, .int z.1)] []) (hE : ∀ y, o = .inr y → AtL w p l e ({ frames := 1, cells := 0, slots := 0, locals := 21 } : Room) s m args below meth c Q 4 87 y L [] []) : AtL w p l e ({ frames := 1, cells := 0, slots := 0, locals := 21 } : Room) s m args below meth c Q 4 55 z.2 L [(0, .ref (wAd w b0)), (1, .int v1), (3, .int z.1)] [] := by
  intro H locs ls hP hS hl
  unfold f_X5_dropMinutes_l55 at hf
  refine lv_iload_n C.1 C.2.1 dX5_dropMinutes_55 rfl (lv_at hl 2 rfl) ?_
  refine lv_aload_n C.1 C.2.1 dX5_dropMinutes_56 rfl (lv_at hl 0 rfl) ?_
  refine k_get (v := .int (z.2 b0 5)) C hP (C9 C (lt_State hb0)) (ob_State hb0 w L _) rfl iX5 5 (by decide) q56 rfl dX5_dropMinutes_57 ?_
  refine lv_icmp_ge (tgt := 87) C.1 C.2.1 dX5_dropMinutes_60 (by decide) (fun c8 => ?_) (fun c8 => ?_)
  · have hf := (if_pos c8).symm.trans hf
    cases hf
    exact hE _ rfl _ _ _ hP hS (lv_sub hl [] rfl)
  · have hf := (if_neg c8).symm.trans hf
    refine lv_aload_n C.1 C.2.1 dX5_dropMinutes_63 rfl (lv_at hl 0 rfl) ?_
    refine k_get (v := .ref (wAd w (b0 + 4))) C hP (C9 C (lt_State hb0)) (ob_State hb0 w L _) rfl iX5 3 (by decide) q49 rfl dX5_dropMinutes_64 ?_
    refine lv_iload_n C.1 C.2.1 dX5_dropMinutes_67 rfl (lv_at hl 2 rfl) ?_
    refine lv_iconst (v := 0) C.1 C.2.1 dX5_dropMinutes_68 (by decide) ?_
    refine lv_aload_n C.1 C.2.1 dX5_dropMinutes_69 rfl (lv_at hl 0 rfl) ?_
    refine k_get (v := .ref (wAd w (b0 + 4))) C hP (C9 C (lt_State hb0)) (ob_State hb0 w L _) rfl iX5 3 (by decide) q49 rfl dX5_dropMinutes_70 ?_
    refine lv_iload_n C.1 C.2.1 dX5_dropMinutes_73 rfl (lv_at hl 2 rfl) ?_
    obtain ⟨x9, hx9, hf⟩ := ob hf
    refine k_iald C hP (C9 C (la_State_complaintMinutes hb0)) (ar_State_complaintMinutes hb0 w L _) hx9 dX5_dropMinutes_74 ?_
    refine lv_iload_n C.1 C.2.1 dX5_dropMinutes_75 rfl (lv_at hl 1 rfl) ?_
    refine lv_isub C.1 C.2.1 dX5_dropMinutes_76 ?_
    refine k_max C hl.1 q697 q574 q15 q575 (Nat.le_of_ble_eq_true rfl) (Nat.le_of_ble_eq_true rfl) (Nat.zero_le _) (Nat.zero_le _) dX5_dropMinutes_77 ?_
    obtain ⟨M10, hM10, hf⟩ := ob hf
    refine k_iast C hP hS (C9 C (la_State_complaintMinutes hb0)) (ar_State_complaintMinutes hb0 w L) hM10 dX5_dropMinutes_80 (fun H locs hP hS => ?_)
    refine lv_iinc (v := (z.1 + 1)) (lv' := [(3, .int (z.1 + 1)), (0, .ref (wAd w b0)), (1, .int v1)]) C.1 C.2.1 dX5_dropMinutes_81 hl (k := 2) rfl rfl (by decide) rfl (fun ls hl => ?_)
    refine lv_goto (tgt := 55) C.1 C.2.1 dX5_dropMinutes_84 (by decide) ?_
    cases hf
    exact hA _ rfl _ _ _ hP hS (lv_sub hl [1, 2, 0] rfl)
set_option maxHeartbeats 4000000 in
set_option maxRecDepth 100000 in
theorem c_X5_dropMinutes (w : WT) (l : Launch) (hw : WOK w) {b0 : Nat} (hb0 : isSt b0) {a1 : Int32} {M : Mem} {L : Lng} {out : Mem} (hf : f_X5_dropMinutes b0 a1 M = some out) : Met l yX5_dropMinutes (Cond.code yX5_dropMinutes cX5_dropMinutes 4 none :: BG) ({ frames := 1, cells := 0, slots := 0, locals := 21 } : Room) (PRE w [.ref (wAd w b0), .int a1] M L) (QV w out L) 0 0 (wA w) := by
  refine kEnt hw (by decide +kernel) rfl (Nat.le_of_ble_eq_true rfl) ?_
  intro p e s m args below meth c C ls hl hP
  have hS : va_S (wA w) s.heap s.heap [] := va_S.rf
  have hl : lv_has ls 4 [(0, .ref (wAd w b0)), (1, .int a1)] := hl
  unfold f_X5_dropMinutes at hf
  refine lv_aload_n C.1 C.2.1 dX5_dropMinutes_0 rfl (lv_at hl 0 rfl) ?_
  refine k_get (v := .int (M b0 4)) C hP (C9 C (lt_State hb0)) (ob_State hb0 w L _) rfl iX5 4 (by decide) q53 rfl dX5_dropMinutes_1 ?_
  refine lv_iload_n C.1 C.2.1 dX5_dropMinutes_4 rfl (lv_at hl 1 rfl) ?_
  refine lv_isub C.1 C.2.1 dX5_dropMinutes_5 ?_
  refine lv_istore_n (lv' := [(2, .int ((M b0 4) - a1)), (0, .ref (wAd w b0)), (1, .int a1)]) C.1 C.2.1 dX5_dropMinutes_6 rfl hl (by decide) rfl (fun ls hl => ?_)
  refine lv_iconst (v := 0) C.1 C.2.1 dX5_dropMinutes_7 (by decide) ?_
  refine lv_istore_n (lv' := [(3, .int 0), (2, .int ((M b0 4) - a1)), (0, .ref (wAd w b0)), (1, .int a1)]) C.1 C.2.1 dX5_dropMinutes_8 rfl hl (by decide) rfl (fun ls hl => ?_)
  obtain ⟨o6, ho6, hf⟩ := ob hf
  refine loop_at (w_X5_dropMinutes_l9 C hb0) FU _ o6 ho6 ?_ _ _ _ hP hS (lv_sub hl [2, 3, 1, 0] rfl)
  intro H locs ls hP hS hl
  refine lv_aload_n C.1 C.2.1 dX5_dropMinutes_48 rfl (lv_at hl 0 rfl) ?_
  refine lv_iload_n C.1 C.2.1 dX5_dropMinutes_49 rfl (lv_at hl 2 rfl) ?_
  obtain ⟨M7, hM7, hf⟩ := ob hf
  refine k_puti C hP hS (C9 C (lt_State hb0)) (fun row => ob_State hb0 w L row) rfl iX5 tyX5 tyX5_ok nmX5 4 (by decide) q53 rfl rfl (Nat.le_of_ble_eq_true rfl) rfl hM7 dX5_dropMinutes_50 (fun H locs hP hS => ?_)
  refine lv_iconst (v := 0) C.1 C.2.1 dX5_dropMinutes_53 (by decide) ?_
  refine lv_istore_n (lv' := [(3, .int 0), (0, .ref (wAd w b0)), (1, .int a1), (2, .int ((M b0 4) - a1))]) C.1 C.2.1 dX5_dropMinutes_54 rfl hl (by decide) rfl (fun ls hl => ?_)
  obtain ⟨o11, ho11, hf⟩ := ob hf
  refine loop_at (w_X5_dropMinutes_l55 C hb0) FU _ o11 ho11 ?_ _ _ _ hP hS (lv_sub hl [1, 2, 0] rfl)
  intro H locs ls hP hS hl
  cases hf
  exact krv C hP hS dX5_dropMinutes_87
theorem dX5_addComplaint_0 : decode cX5_addComplaint 0 = .ok (.aload_n 0, 1) := by decide +kernel
theorem dX5_addComplaint_1 : decode cX5_addComplaint 1 = .ok (.getfield 36, 3) := by decide +kernel
theorem dX5_addComplaint_4 : decode cX5_addComplaint 4 = .ok (.bipush 20, 2) := by decide +kernel
theorem dX5_addComplaint_6 : decode cX5_addComplaint 6 = .ok (.if_icmp .ge 23, 3) := by decide +kernel
theorem dX5_addComplaint_9 : decode cX5_addComplaint 9 = .ok (.aload_n 0, 1) := by decide +kernel
theorem dX5_addComplaint_10 : decode cX5_addComplaint 10 = .ok (.getfield 29, 3) := by decide +kernel
theorem dX5_addComplaint_13 : decode cX5_addComplaint 13 = .ok (.aload_n 0, 1) := by decide +kernel
theorem dX5_addComplaint_14 : decode cX5_addComplaint 14 = .ok (.getfield 36, 3) := by decide +kernel
theorem dX5_addComplaint_17 : decode cX5_addComplaint 17 = .ok (.iload_n 1, 1) := by decide +kernel
theorem dX5_addComplaint_18 : decode cX5_addComplaint 18 = .ok (.iastore, 1) := by decide +kernel
theorem dX5_addComplaint_19 : decode cX5_addComplaint 19 = .ok (.aload_n 0, 1) := by decide +kernel
theorem dX5_addComplaint_20 : decode cX5_addComplaint 20 = .ok (.dup, 1) := by decide +kernel
theorem dX5_addComplaint_21 : decode cX5_addComplaint 21 = .ok (.getfield 36, 3) := by decide +kernel
theorem dX5_addComplaint_24 : decode cX5_addComplaint 24 = .ok (.iconst 1, 1) := by decide +kernel
theorem dX5_addComplaint_25 : decode cX5_addComplaint 25 = .ok (.iadd, 1) := by decide +kernel
theorem dX5_addComplaint_26 : decode cX5_addComplaint 26 = .ok (.putfield 36, 3) := by decide +kernel
theorem dX5_addComplaint_29 : decode cX5_addComplaint 29 = .ok (.return_, 1) := by decide +kernel
set_option maxHeartbeats 4000000 in
set_option maxRecDepth 100000 in
theorem c_X5_addComplaint (w : WT) (l : Launch) (hw : WOK w) {b0 : Nat} (hb0 : isSt b0) {a1 : Int32} {M : Mem} {L : Lng} {out : Mem} (hf : f_X5_addComplaint b0 a1 M = some out) : Met l yX5_addComplaint (Cond.code yX5_addComplaint cX5_addComplaint 2 none :: BG) ({ frames := 0, cells := 0, slots := 0, locals := 0 } : Room) (PRE w [.ref (wAd w b0), .int a1] M L) (QV w out L) 0 0 (wA w) := by
  refine kEnt hw (by decide +kernel) rfl (Nat.le_of_ble_eq_true rfl) ?_
  intro p e s m args below meth c C ls hl hP
  have hS : va_S (wA w) s.heap s.heap [] := va_S.rf
  have hl : lv_has ls 2 [(0, .ref (wAd w b0)), (1, .int a1)] := hl
  unfold f_X5_addComplaint at hf
  refine lv_aload_n C.1 C.2.1 dX5_addComplaint_0 rfl (lv_at hl 0 rfl) ?_
  refine k_get (v := .int (M b0 5)) C hP (C9 C (lt_State hb0)) (ob_State hb0 w L _) rfl iX5 5 (by decide) q56 rfl dX5_addComplaint_1 ?_
  refine lv_bipush (v := 20) C.1 C.2.1 dX5_addComplaint_4 (by decide) ?_
  refine lv_icmp_ge (tgt := 29) C.1 C.2.1 dX5_addComplaint_6 (by decide) (fun c1 => ?_) (fun c1 => ?_)
  · have hf := (if_pos c1).symm.trans hf
    cases hf
    exact krv C hP hS dX5_addComplaint_29
  · have hf := (if_neg c1).symm.trans hf
    refine lv_aload_n C.1 C.2.1 dX5_addComplaint_9 rfl (lv_at hl 0 rfl) ?_
    refine k_get (v := .ref (wAd w (b0 + 4))) C hP (C9 C (lt_State hb0)) (ob_State hb0 w L _) rfl iX5 3 (by decide) q49 rfl dX5_addComplaint_10 ?_
    refine lv_aload_n C.1 C.2.1 dX5_addComplaint_13 rfl (lv_at hl 0 rfl) ?_
    refine k_get (v := .int (M b0 5)) C hP (C9 C (lt_State hb0)) (ob_State hb0 w L _) rfl iX5 5 (by decide) q56 rfl dX5_addComplaint_14 ?_
    refine lv_iload_n C.1 C.2.1 dX5_addComplaint_17 rfl (lv_at hl 1 rfl) ?_
    obtain ⟨M2, hM2, hf⟩ := ob hf
    refine k_iast C hP hS (C9 C (la_State_complaintMinutes hb0)) (ar_State_complaintMinutes hb0 w L) hM2 dX5_addComplaint_18 (fun H locs hP hS => ?_)
    refine lv_aload_n C.1 C.2.1 dX5_addComplaint_19 rfl (lv_at hl 0 rfl) ?_
    refine lv_dup C.1 C.2.1 dX5_addComplaint_20 rfl ?_
    refine k_get (v := .int (M2 b0 5)) C hP (C9 C (lt_State hb0)) (ob_State hb0 w L _) rfl iX5 5 (by decide) q56 rfl dX5_addComplaint_21 ?_
    refine lv_iconst (v := 1) C.1 C.2.1 dX5_addComplaint_24 (by decide) ?_
    refine lv_iadd C.1 C.2.1 dX5_addComplaint_25 ?_
    obtain ⟨M3, hM3, hf⟩ := ob hf
    refine k_puti C hP hS (C9 C (lt_State hb0)) (fun row => ob_State hb0 w L row) rfl iX5 tyX5 tyX5_ok nmX5 5 (by decide) q56 rfl rfl (Nat.le_of_ble_eq_true rfl) rfl hM3 dX5_addComplaint_26 (fun H locs hP hS => ?_)
    cases hf
    exact krv C hP hS dX5_addComplaint_29
theorem dX5_dropComplaint_0 : decode cX5_dropComplaint 0 = .ok (.iload_n 1, 1) := by decide +kernel
theorem dX5_dropComplaint_1 : decode cX5_dropComplaint 1 = .ok (.istore_n 2, 1) := by decide +kernel
theorem dX5_dropComplaint_2 : decode cX5_dropComplaint 2 = .ok (.iload_n 2, 1) := by decide +kernel
theorem dX5_dropComplaint_3 : decode cX5_dropComplaint 3 = .ok (.iconst 1, 1) := by decide +kernel
theorem dX5_dropComplaint_4 : decode cX5_dropComplaint 4 = .ok (.iadd, 1) := by decide +kernel
theorem dX5_dropComplaint_5 : decode cX5_dropComplaint 5 = .ok (.aload_n 0, 1) := by decide +kernel
theorem dX5_dropComplaint_6 : decode cX5_dropComplaint 6 = .ok (.getfield 36, 3) := by decide +kernel
theorem dX5_dropComplaint_9 : decode cX5_dropComplaint 9 = .ok (.if_icmp .ge 23, 3) := by decide +kernel
theorem dX5_dropComplaint_12 : decode cX5_dropComplaint 12 = .ok (.aload_n 0, 1) := by decide +kernel
theorem dX5_dropComplaint_13 : decode cX5_dropComplaint 13 = .ok (.getfield 29, 3) := by decide +kernel
theorem dX5_dropComplaint_16 : decode cX5_dropComplaint 16 = .ok (.iload_n 2, 1) := by decide +kernel
theorem dX5_dropComplaint_17 : decode cX5_dropComplaint 17 = .ok (.aload_n 0, 1) := by decide +kernel
theorem dX5_dropComplaint_18 : decode cX5_dropComplaint 18 = .ok (.getfield 29, 3) := by decide +kernel
theorem dX5_dropComplaint_21 : decode cX5_dropComplaint 21 = .ok (.iload_n 2, 1) := by decide +kernel
theorem dX5_dropComplaint_22 : decode cX5_dropComplaint 22 = .ok (.iconst 1, 1) := by decide +kernel
theorem dX5_dropComplaint_23 : decode cX5_dropComplaint 23 = .ok (.iadd, 1) := by decide +kernel
theorem dX5_dropComplaint_24 : decode cX5_dropComplaint 24 = .ok (.iaload, 1) := by decide +kernel
theorem dX5_dropComplaint_25 : decode cX5_dropComplaint 25 = .ok (.iastore, 1) := by decide +kernel
theorem dX5_dropComplaint_26 : decode cX5_dropComplaint 26 = .ok (.iinc 2 1, 3) := by decide +kernel
theorem dX5_dropComplaint_29 : decode cX5_dropComplaint 29 = .ok (.goto (-27), 3) := by decide +kernel
theorem dX5_dropComplaint_32 : decode cX5_dropComplaint 32 = .ok (.aload_n 0, 1) := by decide +kernel
theorem dX5_dropComplaint_33 : decode cX5_dropComplaint 33 = .ok (.dup, 1) := by decide +kernel
theorem dX5_dropComplaint_34 : decode cX5_dropComplaint 34 = .ok (.getfield 36, 3) := by decide +kernel
theorem dX5_dropComplaint_37 : decode cX5_dropComplaint 37 = .ok (.iconst 1, 1) := by decide +kernel
theorem dX5_dropComplaint_38 : decode cX5_dropComplaint 38 = .ok (.isub, 1) := by decide +kernel
theorem dX5_dropComplaint_39 : decode cX5_dropComplaint 39 = .ok (.putfield 36, 3) := by decide +kernel
theorem dX5_dropComplaint_42 : decode cX5_dropComplaint 42 = .ok (.return_, 1) := by decide +kernel
set_option maxHeartbeats 4000000 in
set_option maxRecDepth 100000 in
theorem w_X5_dropComplaint_l2 {b0 : Nat} {w : WT} {l : Launch} {p : Program} {e : Env} {s : State} {m : MethodId} {args : Array Value} {below : List Frame} {meth : Method} {c : Code} (C : KC w p s m args meth c cX5_dropComplaint 3 RX5 none) (hb0 : isSt b0) {L : Lng} {Q : State → Prop} (z : Int32 × Mem) (o : (Int32 × Mem) ⊕ (Mem)) (hf : f_X5_dropComplaint_l2 b0 z = some o) (hA : ∀ z, o = .inl z → AtL w p l e ({ frames := 0, cells := 0, slots := 0, locals := 0 } : Room) s m args below meth c Q 3 2 z.2 L [(0, .ref (wAd w b0)), (2, .int z.1)] []) (hE : ∀ y, o = .inr y → AtL w p l e ({ frames := 0, cells := 0, slots := 0, locals := 0 } : Room) s m args below meth c Q 3 32 y L [(0, .ref (wAd w b0))] []) : AtL w p l e ({ frames := 0, cells := 0, slots := 0, locals := 0 } : Room) s m args below meth c Q 3 2 z.2 L [(0, .ref (wAd w b0)), (2, .int z.1)] [] := by
  intro H locs ls hP hS hl
  unfold f_X5_dropComplaint_l2 at hf
  refine lv_iload_n C.1 C.2.1 dX5_dropComplaint_2 rfl (lv_at hl 1 rfl) ?_
  refine lv_iconst (v := 1) C.1 C.2.1 dX5_dropComplaint_3 (by decide) ?_
  refine lv_iadd C.1 C.2.1 dX5_dropComplaint_4 ?_
  refine lv_aload_n C.1 C.2.1 dX5_dropComplaint_5 rfl (lv_at hl 0 rfl) ?_
  refine k_get (v := .int (z.2 b0 5)) C hP (C9 C (lt_State hb0)) (ob_State hb0 w L _) rfl iX5 5 (by decide) q56 rfl dX5_dropComplaint_6 ?_
  refine lv_icmp_ge (tgt := 32) C.1 C.2.1 dX5_dropComplaint_9 (by decide) (fun c1 => ?_) (fun c1 => ?_)
  · have hf := (if_pos c1).symm.trans hf
    cases hf
    exact hE _ rfl _ _ _ hP hS (lv_sub hl [0] rfl)
  · have hf := (if_neg c1).symm.trans hf
    refine lv_aload_n C.1 C.2.1 dX5_dropComplaint_12 rfl (lv_at hl 0 rfl) ?_
    refine k_get (v := .ref (wAd w (b0 + 4))) C hP (C9 C (lt_State hb0)) (ob_State hb0 w L _) rfl iX5 3 (by decide) q49 rfl dX5_dropComplaint_13 ?_
    refine lv_iload_n C.1 C.2.1 dX5_dropComplaint_16 rfl (lv_at hl 1 rfl) ?_
    refine lv_aload_n C.1 C.2.1 dX5_dropComplaint_17 rfl (lv_at hl 0 rfl) ?_
    refine k_get (v := .ref (wAd w (b0 + 4))) C hP (C9 C (lt_State hb0)) (ob_State hb0 w L _) rfl iX5 3 (by decide) q49 rfl dX5_dropComplaint_18 ?_
    refine lv_iload_n C.1 C.2.1 dX5_dropComplaint_21 rfl (lv_at hl 1 rfl) ?_
    refine lv_iconst (v := 1) C.1 C.2.1 dX5_dropComplaint_22 (by decide) ?_
    refine lv_iadd C.1 C.2.1 dX5_dropComplaint_23 ?_
    obtain ⟨x2, hx2, hf⟩ := ob hf
    refine k_iald C hP (C9 C (la_State_complaintMinutes hb0)) (ar_State_complaintMinutes hb0 w L _) hx2 dX5_dropComplaint_24 ?_
    obtain ⟨M3, hM3, hf⟩ := ob hf
    refine k_iast C hP hS (C9 C (la_State_complaintMinutes hb0)) (ar_State_complaintMinutes hb0 w L) hM3 dX5_dropComplaint_25 (fun H locs hP hS => ?_)
    refine lv_iinc (v := (z.1 + 1)) (lv' := [(2, .int (z.1 + 1)), (0, .ref (wAd w b0))]) C.1 C.2.1 dX5_dropComplaint_26 hl (k := 1) rfl rfl (by decide) rfl (fun ls hl => ?_)
    refine lv_goto (tgt := 2) C.1 C.2.1 dX5_dropComplaint_29 (by decide) ?_
    cases hf
    exact hA _ rfl _ _ _ hP hS (lv_sub hl [1, 0] rfl)
set_option maxHeartbeats 4000000 in
set_option maxRecDepth 100000 in
theorem c_X5_dropComplaint (w : WT) (l : Launch) (hw : WOK w) {b0 : Nat} (hb0 : isSt b0) {a1 : Int32} {M : Mem} {L : Lng} {out : Mem} (hf : f_X5_dropComplaint b0 a1 M = some out) : Met l yX5_dropComplaint (Cond.code yX5_dropComplaint cX5_dropComplaint 3 none :: BG) ({ frames := 0, cells := 0, slots := 0, locals := 0 } : Room) (PRE w [.ref (wAd w b0), .int a1] M L) (QV w out L) 0 0 (wA w) := by
  refine kEnt hw (by decide +kernel) rfl (Nat.le_of_ble_eq_true rfl) ?_
  intro p e s m args below meth c C ls hl hP
  have hS : va_S (wA w) s.heap s.heap [] := va_S.rf
  have hl : lv_has ls 3 [(0, .ref (wAd w b0)), (1, .int a1)] := hl
  unfold f_X5_dropComplaint at hf
  refine lv_iload_n C.1 C.2.1 dX5_dropComplaint_0 rfl (lv_at hl 1 rfl) ?_
  refine lv_istore_n (lv' := [(2, .int a1), (0, .ref (wAd w b0)), (1, .int a1)]) C.1 C.2.1 dX5_dropComplaint_1 rfl hl (by decide) rfl (fun ls hl => ?_)
  obtain ⟨o4, ho4, hf⟩ := ob hf
  refine loop_at (w_X5_dropComplaint_l2 C hb0) FU _ o4 ho4 ?_ _ _ _ hP hS (lv_sub hl [1, 0] rfl)
  intro H locs ls hP hS hl
  refine lv_aload_n C.1 C.2.1 dX5_dropComplaint_32 rfl (lv_at hl 0 rfl) ?_
  refine lv_dup C.1 C.2.1 dX5_dropComplaint_33 rfl ?_
  refine k_get (v := .int (o4 b0 5)) C hP (C9 C (lt_State hb0)) (ob_State hb0 w L _) rfl iX5 5 (by decide) q56 rfl dX5_dropComplaint_34 ?_
  refine lv_iconst (v := 1) C.1 C.2.1 dX5_dropComplaint_37 (by decide) ?_
  refine lv_isub C.1 C.2.1 dX5_dropComplaint_38 ?_
  obtain ⟨M5, hM5, hf⟩ := ob hf
  refine k_puti C hP hS (C9 C (lt_State hb0)) (fun row => ob_State hb0 w L row) rfl iX5 tyX5 tyX5_ok nmX5 5 (by decide) q56 rfl rfl (Nat.le_of_ble_eq_true rfl) rfl hM5 dX5_dropComplaint_39 (fun H locs hP hS => ?_)
  cases hf
  exact krv C hP hS dX5_dropComplaint_42
theorem dX7_takeSettings_0 : decode cX7_takeSettings 0 = .ok (.aload_n 1, 1) := by decide +kernel
theorem dX7_takeSettings_1 : decode cX7_takeSettings 1 = .ok (.iconst 0, 1) := by decide +kernel
theorem dX7_takeSettings_2 : decode cX7_takeSettings 2 = .ok (.aload_n 0, 1) := by decide +kernel
theorem dX7_takeSettings_3 : decode cX7_takeSettings 3 = .ok (.getfield 18, 3) := by decide +kernel
theorem dX7_takeSettings_6 : decode cX7_takeSettings 6 = .ok (.iconst 0, 1) := by decide +kernel
theorem dX7_takeSettings_7 : decode cX7_takeSettings 7 = .ok (.bipush 10, 2) := by decide +kernel
theorem dX7_takeSettings_9 : decode cX7_takeSettings 9 = .ok (.invokestatic 44, 3) := by decide +kernel
theorem dX7_takeSettings_12 : decode cX7_takeSettings 12 = .ok (.return_, 1) := by decide +kernel
set_option maxHeartbeats 4000000 in
set_option maxRecDepth 100000 in
theorem c_X7_takeSettings (w : WT) (l : Launch) (hw : WOK w) {b0 : Nat} {g1 : Nat} (hb0 : isVw b0) (hg1 : isS g1) {M : Mem} {L : Lng} {out : Mem} (hf : f_X7_takeSettings b0 g1 M = some out) : Met l yX7_takeSettings (Cond.code yX7_takeSettings cX7_takeSettings 2 none :: BG) ({ frames := 1, cells := 0, slots := 0, locals := 40 } : Room) (PRE w [.ref (wAd w b0), .ref (wAd w g1)] M L) (QV w out L) 0 0 (wA w) := by
  refine kEnt hw (by decide +kernel) rfl (Nat.le_of_ble_eq_true rfl) ?_
  intro p e s m args below meth c C ls hl hP
  have hS : va_S (wA w) s.heap s.heap [] := va_S.rf
  have hl : lv_has ls 2 [(0, .ref (wAd w b0)), (1, .ref (wAd w g1))] := hl
  unfold f_X7_takeSettings at hf
  refine lv_aload_n C.1 C.2.1 dX7_takeSettings_0 rfl (lv_at hl 1 rfl) ?_
  refine lv_iconst (v := 0) C.1 C.2.1 dX7_takeSettings_1 (by decide) ?_
  refine lv_aload_n C.1 C.2.1 dX7_takeSettings_2 rfl (lv_at hl 0 rfl) ?_
  refine k_get (v := .ref (wAd w (b0 + 1))) C hP (C9 C (lt_View hb0)) (ob_View hb0 w L _) rfl iX7 0 (by decide) q245 rfl dX7_takeSettings_3 ?_
  refine lv_iconst (v := 0) C.1 C.2.1 dX7_takeSettings_6 (by decide) ?_
  refine lv_bipush (v := 10) C.1 C.2.1 dX7_takeSettings_7 (by decide) ?_
  obtain ⟨M1, hM1, hf⟩ := ob hf
  refine k_cpy C hl.1 hP hS (C9 C (la_S hg1)) (ar_S hg1 w L _) (C9 C (la_View_settings hb0)) (ar_View_settings hb0 w L) q528 q530 q529 q17 hM1 (Nat.le_of_ble_eq_true rfl) (Nat.le_of_ble_eq_true rfl) dX7_takeSettings_9 (fun H locs hP hS => ?_)
  cases hf
  exact krv C hP hS dX7_takeSettings_12
theorem dX7_look_0 : decode cX7_look 0 = .ok (.aload_n 0, 1) := by decide +kernel
theorem dX7_look_1 : decode cX7_look 1 = .ok (.getfield 26, 3) := by decide +kernel
theorem dX7_look_4 : decode cX7_look 4 = .ok (.aload_n 1, 1) := by decide +kernel
theorem dX7_look_5 : decode cX7_look 5 = .ok (.aload_n 0, 1) := by decide +kernel
theorem dX7_look_6 : decode cX7_look 6 = .ok (.getfield 18, 3) := by decide +kernel
theorem dX7_look_9 : decode cX7_look 9 = .ok (.invokevirtual 50, 3) := by decide +kernel
theorem dX7_look_12 : decode cX7_look 12 = .ok (.aload_n 0, 1) := by decide +kernel
theorem dX7_look_13 : decode cX7_look 13 = .ok (.getfield 26, 3) := by decide +kernel
theorem dX7_look_16 : decode cX7_look 16 = .ok (.aload_n 1, 1) := by decide +kernel
theorem dX7_look_17 : decode cX7_look 17 = .ok (.aload_n 0, 1) := by decide +kernel
theorem dX7_look_18 : decode cX7_look 18 = .ok (.getfield 18, 3) := by decide +kernel
theorem dX7_look_21 : decode cX7_look 21 = .ok (.invokevirtual 54, 3) := by decide +kernel
theorem dX7_look_24 : decode cX7_look 24 = .ok (.aload_n 0, 1) := by decide +kernel
theorem dX7_look_25 : decode cX7_look 25 = .ok (.getfield 26, 3) := by decide +kernel
theorem dX7_look_28 : decode cX7_look 28 = .ok (.aload_n 0, 1) := by decide +kernel
theorem dX7_look_29 : decode cX7_look 29 = .ok (.getfield 18, 3) := by decide +kernel
theorem dX7_look_32 : decode cX7_look 32 = .ok (.invokevirtual 57, 3) := by decide +kernel
theorem dX7_look_35 : decode cX7_look 35 = .ok (.aload_n 0, 1) := by decide +kernel
theorem dX7_look_36 : decode cX7_look 36 = .ok (.getfield 33, 3) := by decide +kernel
theorem dX7_look_39 : decode cX7_look 39 = .ok (.aload_n 0, 1) := by decide +kernel
theorem dX7_look_40 : decode cX7_look 40 = .ok (.getfield 26, 3) := by decide +kernel
theorem dX7_look_43 : decode cX7_look 43 = .ok (.aload_n 0, 1) := by decide +kernel
theorem dX7_look_44 : decode cX7_look 44 = .ok (.getfield 18, 3) := by decide +kernel
theorem dX7_look_47 : decode cX7_look 47 = .ok (.invokevirtual 61, 3) := by decide +kernel
theorem dX7_look_50 : decode cX7_look 50 = .ok (.aload_n 0, 1) := by decide +kernel
theorem dX7_look_51 : decode cX7_look 51 = .ok (.getfield 40, 3) := by decide +kernel
theorem dX7_look_54 : decode cX7_look 54 = .ok (.aload_n 1, 1) := by decide +kernel
theorem dX7_look_55 : decode cX7_look 55 = .ok (.aload_n 0, 1) := by decide +kernel
theorem dX7_look_56 : decode cX7_look 56 = .ok (.getfield 33, 3) := by decide +kernel
theorem dX7_look_59 : decode cX7_look 59 = .ok (.aload_n 0, 1) := by decide +kernel
theorem dX7_look_60 : decode cX7_look 60 = .ok (.getfield 18, 3) := by decide +kernel
theorem dX7_look_63 : decode cX7_look 63 = .ok (.bipush 7, 2) := by decide +kernel
theorem dX7_look_65 : decode cX7_look 65 = .ok (.iaload, 1) := by decide +kernel
theorem dX7_look_66 : decode cX7_look 66 = .ok (.invokevirtual 65, 3) := by decide +kernel
theorem dX7_look_69 : decode cX7_look 69 = .ok (.return_, 1) := by decide +kernel
set_option maxHeartbeats 4000000 in
set_option maxRecDepth 100000 in
theorem c_X7_look (w : WT) (l : Launch) (hw : WOK w) {b0 : Nat} {b1 : Nat} (hb0 : isVw b0) (hb1 : isSt b1) {M : Mem} {L : Lng} {out : Mem} (hf : f_X7_look b0 b1 M = some out) : Met l yX7_look (Cond.code yX7_look cX7_look 2 none :: BG) ({ frames := 4, cells := 0, slots := 0, locals := 90 } : Room) (PRE w [.ref (wAd w b0), .ref (wAd w b1)] M L) (QV w out L) 0 0 (wA w) := by
  refine kEnt hw (by decide +kernel) rfl (Nat.le_of_ble_eq_true rfl) ?_
  intro p e s m args below meth c C ls hl hP
  have hS : va_S (wA w) s.heap s.heap [] := va_S.rf
  have hl : lv_has ls 2 [(0, .ref (wAd w b0)), (1, .ref (wAd w b1))] := hl
  unfold f_X7_look at hf
  refine lv_aload_n C.1 C.2.1 dX7_look_0 rfl (lv_at hl 0 rfl) ?_
  refine k_get (v := .ref (wAd w (b0 + 2))) C hP (C9 C (lt_View hb0)) (ob_View hb0 w L _) rfl iX7 1 (by decide) q247 rfl dX7_look_1 ?_
  refine lv_aload_n C.1 C.2.1 dX7_look_4 rfl (lv_at hl 1 rfl) ?_
  refine lv_aload_n C.1 C.2.1 dX7_look_5 rfl (lv_at hl 0 rfl) ?_
  refine k_get (v := .ref (wAd w (b0 + 1))) C hP (C9 C (lt_View hb0)) (ob_View hb0 w L _) rfl iX7 0 (by decide) q245 rfl dX7_look_6 ?_
  obtain ⟨r1, hr1, hf⟩ := ob hf
  refine kcv (kV (As := [.ref (wAd w b1), .ref (wAd w (b0 + 1))]) (rest := []) C hl.1 hP hS (c_X4_moveArms w l C.2.2.2.2.2.2.2.2 (to_View_minutes hb0) hb1 (s_View hb0) (L := L) hr1) (gV q535 q536 q537 q6 q538) hd_X4_moveArms (C9 C (lt_Minutes (to_View_minutes hb0))) (ob_Minutes (to_View_minutes hb0) w L _) rfl ⟨rfl, rfl⟩ ⟨Nat.le_of_ble_eq_true rfl, Nat.le_of_ble_eq_true rfl⟩ rfl rfl (Nat.le_of_ble_eq_true rfl) dX7_look_9 ⟨Nat.zero_le _, Nat.zero_le _⟩) hS (fun H locs hP hS => ?_)
  refine lv_aload_n C.1 C.2.1 dX7_look_12 rfl (lv_at hl 0 rfl) ?_
  refine k_get (v := .ref (wAd w (b0 + 2))) C hP (C9 C (lt_View hb0)) (ob_View hb0 w L _) rfl iX7 1 (by decide) q247 rfl dX7_look_13 ?_
  refine lv_aload_n C.1 C.2.1 dX7_look_16 rfl (lv_at hl 1 rfl) ?_
  refine lv_aload_n C.1 C.2.1 dX7_look_17 rfl (lv_at hl 0 rfl) ?_
  refine k_get (v := .ref (wAd w (b0 + 1))) C hP (C9 C (lt_View hb0)) (ob_View hb0 w L _) rfl iX7 0 (by decide) q245 rfl dX7_look_18 ?_
  obtain ⟨r2, hr2, hf⟩ := ob hf
  refine kcv (kV (As := [.ref (wAd w b1), .ref (wAd w (b0 + 1))]) (rest := []) C hl.1 hP hS (c_X4_judge w l C.2.2.2.2.2.2.2.2 (to_View_minutes hb0) hb1 (s_View hb0) (L := L) hr2) (gV q542 q543 q544 q6 q545) hd_X4_judge (C9 C (lt_Minutes (to_View_minutes hb0))) (ob_Minutes (to_View_minutes hb0) w L _) rfl ⟨rfl, rfl⟩ ⟨Nat.le_of_ble_eq_true rfl, Nat.le_of_ble_eq_true rfl⟩ rfl rfl (Nat.le_of_ble_eq_true rfl) dX7_look_21 ⟨Nat.zero_le _, Nat.zero_le _⟩) hS (fun H locs hP hS => ?_)
  refine lv_aload_n C.1 C.2.1 dX7_look_24 rfl (lv_at hl 0 rfl) ?_
  refine k_get (v := .ref (wAd w (b0 + 2))) C hP (C9 C (lt_View hb0)) (ob_View hb0 w L _) rfl iX7 1 (by decide) q247 rfl dX7_look_25 ?_
  refine lv_aload_n C.1 C.2.1 dX7_look_28 rfl (lv_at hl 0 rfl) ?_
  refine k_get (v := .ref (wAd w (b0 + 1))) C hP (C9 C (lt_View hb0)) (ob_View hb0 w L _) rfl iX7 0 (by decide) q245 rfl dX7_look_29 ?_
  obtain ⟨r3, hr3, hf⟩ := ob hf
  refine kcv (kV (As := [.ref (wAd w (b0 + 1))]) (rest := []) C hl.1 hP hS (c_X4_tally w l C.2.2.2.2.2.2.2.2 (to_View_minutes hb0) (s_View hb0) (L := L) hr3) (gV q551 q552 q553 q6 q554) hd_X4_tally (C9 C (lt_Minutes (to_View_minutes hb0))) (ob_Minutes (to_View_minutes hb0) w L _) rfl ⟨rfl, rfl⟩ ⟨Nat.le_of_ble_eq_true rfl, Nat.le_of_ble_eq_true rfl⟩ rfl rfl (Nat.le_of_ble_eq_true rfl) dX7_look_32 ⟨Nat.zero_le _, Nat.zero_le _⟩) hS (fun H locs hP hS => ?_)
  refine lv_aload_n C.1 C.2.1 dX7_look_35 rfl (lv_at hl 0 rfl) ?_
  refine k_get (v := .ref (wAd w (b0 + 6))) C hP (C9 C (lt_View hb0)) (ob_View hb0 w L _) rfl iX7 2 (by decide) q249 rfl dX7_look_36 ?_
  refine lv_aload_n C.1 C.2.1 dX7_look_39 rfl (lv_at hl 0 rfl) ?_
  refine k_get (v := .ref (wAd w (b0 + 2))) C hP (C9 C (lt_View hb0)) (ob_View hb0 w L _) rfl iX7 1 (by decide) q247 rfl dX7_look_40 ?_
  refine lv_aload_n C.1 C.2.1 dX7_look_43 rfl (lv_at hl 0 rfl) ?_
  refine k_get (v := .ref (wAd w (b0 + 1))) C hP (C9 C (lt_View hb0)) (ob_View hb0 w L _) rfl iX7 0 (by decide) q245 rfl dX7_look_44 ?_
  obtain ⟨r4, hr4, hf⟩ := ob hf
  refine kcv (kV (As := [.ref (wAd w (b0 + 2)), .ref (wAd w (b0 + 1))]) (rest := []) C hl.1 hP hS (c_X0_find w l C.2.2.2.2.2.2.2.2 (to_View_exceedances hb0) (to_View_minutes hb0) (s_View hb0) (L := L) hr4) (gV q560 q561 q562 q7 q563) hd_X0_find (C9 C (lt_Exceedances (to_View_exceedances hb0))) (ob_Exceedances (to_View_exceedances hb0) w L _) rfl ⟨rfl, rfl⟩ ⟨Nat.le_of_ble_eq_true rfl, Nat.le_of_ble_eq_true rfl⟩ rfl rfl (Nat.le_of_ble_eq_true rfl) dX7_look_47 ⟨Nat.zero_le _, Nat.zero_le _⟩) hS (fun H locs hP hS => ?_)
  refine lv_aload_n C.1 C.2.1 dX7_look_50 rfl (lv_at hl 0 rfl) ?_
  refine k_get (v := .ref (wAd w (b0 + 13))) C hP (C9 C (lt_View hb0)) (ob_View hb0 w L _) rfl iX7 3 (by decide) q251 rfl dX7_look_51 ?_
  refine lv_aload_n C.1 C.2.1 dX7_look_54 rfl (lv_at hl 1 rfl) ?_
  refine lv_aload_n C.1 C.2.1 dX7_look_55 rfl (lv_at hl 0 rfl) ?_
  refine k_get (v := .ref (wAd w (b0 + 6))) C hP (C9 C (lt_View hb0)) (ob_View hb0 w L _) rfl iX7 2 (by decide) q249 rfl dX7_look_56 ?_
  refine lv_aload_n C.1 C.2.1 dX7_look_59 rfl (lv_at hl 0 rfl) ?_
  refine k_get (v := .ref (wAd w (b0 + 1))) C hP (C9 C (lt_View hb0)) (ob_View hb0 w L _) rfl iX7 0 (by decide) q245 rfl dX7_look_60 ?_
  refine lv_bipush (v := 7) C.1 C.2.1 dX7_look_63 (by decide) ?_
  obtain ⟨x5, hx5, hf⟩ := ob hf
  refine k_iald C hP (C9 C (la_View_settings hb0)) (ar_View_settings hb0 w L _) hx5 dX7_look_65 ?_
  obtain ⟨r6, hr6, hf⟩ := ob hf
  refine kcv (kV (As := [.ref (wAd w b1), .ref (wAd w (b0 + 6)), .int x5]) (rest := []) C hl.1 hP hS (c_X3_match w l C.2.2.2.2.2.2.2.2 (to_View_matches hb0) hb1 (to_View_exceedances hb0) (L := L) hr6) (gV q580 q581 q582 q8 q583) hd_X3_match (C9 C (lt_Matches (to_View_matches hb0))) (ob_Matches (to_View_matches hb0) w L _) rfl ⟨rfl, rfl⟩ ⟨Nat.le_of_ble_eq_true rfl, Nat.le_of_ble_eq_true rfl⟩ rfl rfl (Nat.le_of_ble_eq_true rfl) dX7_look_66 ⟨Nat.zero_le _, Nat.zero_le _⟩) hS (fun H locs hP hS => ?_)
  cases hf
  exact krv C hP hS dX7_look_69
theorem dX7_numberOf_0 : decode cX7_numberOf 0 = .ok (.iload_n 1, 1) := by decide +kernel
theorem dX7_numberOf_1 : decode cX7_numberOf 1 = .ok (.tableswitch 143 0 9 #[55, 63, 71, 87, 95, 103, 111, 119, 127, 135], 55) := by decide +kernel
theorem dX7_numberOf_56 : decode cX7_numberOf 56 = .ok (.aload_n 0, 1) := by decide +kernel
theorem dX7_numberOf_57 : decode cX7_numberOf 57 = .ok (.getfield 26, 3) := by decide +kernel
theorem dX7_numberOf_60 : decode cX7_numberOf 60 = .ok (.getfield 69, 3) := by decide +kernel
theorem dX7_numberOf_63 : decode cX7_numberOf 63 = .ok (.ireturn, 1) := by decide +kernel
theorem dX7_numberOf_64 : decode cX7_numberOf 64 = .ok (.aload_n 0, 1) := by decide +kernel
theorem dX7_numberOf_65 : decode cX7_numberOf 65 = .ok (.getfield 26, 3) := by decide +kernel
theorem dX7_numberOf_68 : decode cX7_numberOf 68 = .ok (.getfield 73, 3) := by decide +kernel
theorem dX7_numberOf_71 : decode cX7_numberOf 71 = .ok (.ireturn, 1) := by decide +kernel
theorem dX7_numberOf_72 : decode cX7_numberOf 72 = .ok (.aload_n 0, 1) := by decide +kernel
theorem dX7_numberOf_73 : decode cX7_numberOf 73 = .ok (.getfield 26, 3) := by decide +kernel
theorem dX7_numberOf_76 : decode cX7_numberOf 76 = .ok (.getfield 69, 3) := by decide +kernel
theorem dX7_numberOf_79 : decode cX7_numberOf 79 = .ok (.aload_n 0, 1) := by decide +kernel
theorem dX7_numberOf_80 : decode cX7_numberOf 80 = .ok (.getfield 26, 3) := by decide +kernel
theorem dX7_numberOf_83 : decode cX7_numberOf 83 = .ok (.getfield 73, 3) := by decide +kernel
theorem dX7_numberOf_86 : decode cX7_numberOf 86 = .ok (.isub, 1) := by decide +kernel
theorem dX7_numberOf_87 : decode cX7_numberOf 87 = .ok (.ireturn, 1) := by decide +kernel
theorem dX7_numberOf_88 : decode cX7_numberOf 88 = .ok (.aload_n 0, 1) := by decide +kernel
theorem dX7_numberOf_89 : decode cX7_numberOf 89 = .ok (.getfield 26, 3) := by decide +kernel
theorem dX7_numberOf_92 : decode cX7_numberOf 92 = .ok (.getfield 76, 3) := by decide +kernel
theorem dX7_numberOf_95 : decode cX7_numberOf 95 = .ok (.ireturn, 1) := by decide +kernel
theorem dX7_numberOf_96 : decode cX7_numberOf 96 = .ok (.aload_n 0, 1) := by decide +kernel
theorem dX7_numberOf_97 : decode cX7_numberOf 97 = .ok (.getfield 26, 3) := by decide +kernel
theorem dX7_numberOf_100 : decode cX7_numberOf 100 = .ok (.getfield 79, 3) := by decide +kernel
theorem dX7_numberOf_103 : decode cX7_numberOf 103 = .ok (.ireturn, 1) := by decide +kernel
theorem dX7_numberOf_104 : decode cX7_numberOf 104 = .ok (.aload_n 0, 1) := by decide +kernel
theorem dX7_numberOf_105 : decode cX7_numberOf 105 = .ok (.getfield 33, 3) := by decide +kernel
theorem dX7_numberOf_108 : decode cX7_numberOf 108 = .ok (.getfield 82, 3) := by decide +kernel
theorem dX7_numberOf_111 : decode cX7_numberOf 111 = .ok (.ireturn, 1) := by decide +kernel
theorem dX7_numberOf_112 : decode cX7_numberOf 112 = .ok (.aload_n 0, 1) := by decide +kernel
theorem dX7_numberOf_113 : decode cX7_numberOf 113 = .ok (.getfield 40, 3) := by decide +kernel
theorem dX7_numberOf_116 : decode cX7_numberOf 116 = .ok (.getfield 85, 3) := by decide +kernel
theorem dX7_numberOf_119 : decode cX7_numberOf 119 = .ok (.ireturn, 1) := by decide +kernel
theorem dX7_numberOf_120 : decode cX7_numberOf 120 = .ok (.aload_n 0, 1) := by decide +kernel
theorem dX7_numberOf_121 : decode cX7_numberOf 121 = .ok (.getfield 40, 3) := by decide +kernel
theorem dX7_numberOf_124 : decode cX7_numberOf 124 = .ok (.getfield 88, 3) := by decide +kernel
theorem dX7_numberOf_127 : decode cX7_numberOf 127 = .ok (.ireturn, 1) := by decide +kernel
theorem dX7_numberOf_128 : decode cX7_numberOf 128 = .ok (.aload_n 0, 1) := by decide +kernel
theorem dX7_numberOf_129 : decode cX7_numberOf 129 = .ok (.getfield 33, 3) := by decide +kernel
theorem dX7_numberOf_132 : decode cX7_numberOf 132 = .ok (.invokevirtual 91, 3) := by decide +kernel
theorem dX7_numberOf_135 : decode cX7_numberOf 135 = .ok (.ireturn, 1) := by decide +kernel
theorem dX7_numberOf_136 : decode cX7_numberOf 136 = .ok (.aload_n 0, 1) := by decide +kernel
theorem dX7_numberOf_137 : decode cX7_numberOf 137 = .ok (.getfield 33, 3) := by decide +kernel
theorem dX7_numberOf_140 : decode cX7_numberOf 140 = .ok (.invokevirtual 95, 3) := by decide +kernel
theorem dX7_numberOf_143 : decode cX7_numberOf 143 = .ok (.ireturn, 1) := by decide +kernel
theorem dX7_numberOf_144 : decode cX7_numberOf 144 = .ok (.aload_n 0, 1) := by decide +kernel
theorem dX7_numberOf_145 : decode cX7_numberOf 145 = .ok (.getfield 33, 3) := by decide +kernel
theorem dX7_numberOf_148 : decode cX7_numberOf 148 = .ok (.getfield 98, 3) := by decide +kernel
theorem dX7_numberOf_151 : decode cX7_numberOf 151 = .ok (.ifCond .eq 7, 3) := by decide +kernel
theorem dX7_numberOf_154 : decode cX7_numberOf 154 = .ok (.iconst 1, 1) := by decide +kernel
theorem dX7_numberOf_155 : decode cX7_numberOf 155 = .ok (.goto 4, 3) := by decide +kernel
theorem dX7_numberOf_158 : decode cX7_numberOf 158 = .ok (.iconst 0, 1) := by decide +kernel
theorem dX7_numberOf_159 : decode cX7_numberOf 159 = .ok (.ireturn, 1) := by decide +kernel
set_option maxHeartbeats 4000000 in
set_option maxRecDepth 100000 in
theorem c_X7_numberOf (w : WT) (l : Launch) (hw : WOK w) {b0 : Nat} (hb0 : isVw b0) {a1 : Int32} {M : Mem} {L : Lng} {out : Int32} (hf : f_X7_numberOf b0 a1 M = some out) : Met l yX7_numberOf (Cond.code yX7_numberOf cX7_numberOf 2 (some .int) :: BG) ({ frames := 1, cells := 0, slots := 0, locals := 22 } : Room) (PRE w [.ref (wAd w b0), .int a1] M L) (QI w out M L) 0 0 (wA w) := by
  refine kEnt hw (by decide +kernel) rfl (Nat.le_of_ble_eq_true rfl) ?_
  intro p e s m args below meth c C ls hl hP
  have hS : va_S (wA w) s.heap s.heap [] := va_S.rf
  have hl : lv_has ls 2 [(0, .ref (wAd w b0)), (1, .int a1)] := hl
  unfold f_X7_numberOf at hf
  refine lv_iload_n C.1 C.2.1 dX7_numberOf_0 rfl (lv_at hl 1 rfl) ?_
  by_cases c1 : a1 = 0
  · have hf := (if_pos c1).symm.trans hf
    refine lv_tableIn (off := 55) (tgt := 56) C.1 C.2.1 dX7_numberOf_1 (by rw [c1]; decide) (by rw [c1]; decide) (by rw [c1]; rfl) (by decide) ?_
    refine lv_aload_n C.1 C.2.1 dX7_numberOf_56 rfl (lv_at hl 0 rfl) ?_
    refine k_get (v := .ref (wAd w (b0 + 2))) C hP (C9 C (lt_View hb0)) (ob_View hb0 w L _) rfl iX7 1 (by decide) q247 rfl dX7_numberOf_57 ?_
    refine k_get (v := .int (M (b0 + 2) 3)) C hP (C9 C (lt_Minutes (to_View_minutes hb0))) (ob_Minutes (to_View_minutes hb0) w L _) rfl iX4 3 (by decide) q149 rfl dX7_numberOf_60 ?_
    cases hf
    exact kri C hP hS dX7_numberOf_63
  · have hf := (if_neg c1).symm.trans hf
    by_cases c2 : a1 = 1
    · have hf := (if_pos c2).symm.trans hf
      refine lv_tableIn (off := 63) (tgt := 64) C.1 C.2.1 dX7_numberOf_1 (by rw [c2]; decide) (by rw [c2]; decide) (by rw [c2]; rfl) (by decide) ?_
      refine lv_aload_n C.1 C.2.1 dX7_numberOf_64 rfl (lv_at hl 0 rfl) ?_
      refine k_get (v := .ref (wAd w (b0 + 2))) C hP (C9 C (lt_View hb0)) (ob_View hb0 w L _) rfl iX7 1 (by decide) q247 rfl dX7_numberOf_65 ?_
      refine k_get (v := .int (M (b0 + 2) 4)) C hP (C9 C (lt_Minutes (to_View_minutes hb0))) (ob_Minutes (to_View_minutes hb0) w L _) rfl iX4 4 (by decide) q151 rfl dX7_numberOf_68 ?_
      cases hf
      exact kri C hP hS dX7_numberOf_71
    · have hf := (if_neg c2).symm.trans hf
      by_cases c3 : a1 = 2
      · have hf := (if_pos c3).symm.trans hf
        refine lv_tableIn (off := 71) (tgt := 72) C.1 C.2.1 dX7_numberOf_1 (by rw [c3]; decide) (by rw [c3]; decide) (by rw [c3]; rfl) (by decide) ?_
        refine lv_aload_n C.1 C.2.1 dX7_numberOf_72 rfl (lv_at hl 0 rfl) ?_
        refine k_get (v := .ref (wAd w (b0 + 2))) C hP (C9 C (lt_View hb0)) (ob_View hb0 w L _) rfl iX7 1 (by decide) q247 rfl dX7_numberOf_73 ?_
        refine k_get (v := .int (M (b0 + 2) 3)) C hP (C9 C (lt_Minutes (to_View_minutes hb0))) (ob_Minutes (to_View_minutes hb0) w L _) rfl iX4 3 (by decide) q149 rfl dX7_numberOf_76 ?_
        refine lv_aload_n C.1 C.2.1 dX7_numberOf_79 rfl (lv_at hl 0 rfl) ?_
        refine k_get (v := .ref (wAd w (b0 + 2))) C hP (C9 C (lt_View hb0)) (ob_View hb0 w L _) rfl iX7 1 (by decide) q247 rfl dX7_numberOf_80 ?_
        refine k_get (v := .int (M (b0 + 2) 4)) C hP (C9 C (lt_Minutes (to_View_minutes hb0))) (ob_Minutes (to_View_minutes hb0) w L _) rfl iX4 4 (by decide) q151 rfl dX7_numberOf_83 ?_
        refine lv_isub C.1 C.2.1 dX7_numberOf_86 ?_
        cases hf
        exact kri C hP hS dX7_numberOf_87
      · have hf := (if_neg c3).symm.trans hf
        by_cases c4 : a1 = 3
        · have hf := (if_pos c4).symm.trans hf
          refine lv_tableIn (off := 87) (tgt := 88) C.1 C.2.1 dX7_numberOf_1 (by rw [c4]; decide) (by rw [c4]; decide) (by rw [c4]; rfl) (by decide) ?_
          refine lv_aload_n C.1 C.2.1 dX7_numberOf_88 rfl (lv_at hl 0 rfl) ?_
          refine k_get (v := .ref (wAd w (b0 + 2))) C hP (C9 C (lt_View hb0)) (ob_View hb0 w L _) rfl iX7 1 (by decide) q247 rfl dX7_numberOf_89 ?_
          refine k_get (v := .int (M (b0 + 2) 5)) C hP (C9 C (lt_Minutes (to_View_minutes hb0))) (ob_Minutes (to_View_minutes hb0) w L _) rfl iX4 5 (by decide) q154 rfl dX7_numberOf_92 ?_
          cases hf
          exact kri C hP hS dX7_numberOf_95
        · have hf := (if_neg c4).symm.trans hf
          by_cases c5 : a1 = 4
          · have hf := (if_pos c5).symm.trans hf
            refine lv_tableIn (off := 95) (tgt := 96) C.1 C.2.1 dX7_numberOf_1 (by rw [c5]; decide) (by rw [c5]; decide) (by rw [c5]; rfl) (by decide) ?_
            refine lv_aload_n C.1 C.2.1 dX7_numberOf_96 rfl (lv_at hl 0 rfl) ?_
            refine k_get (v := .ref (wAd w (b0 + 2))) C hP (C9 C (lt_View hb0)) (ob_View hb0 w L _) rfl iX7 1 (by decide) q247 rfl dX7_numberOf_97 ?_
            refine k_get (v := .int (M (b0 + 2) 6)) C hP (C9 C (lt_Minutes (to_View_minutes hb0))) (ob_Minutes (to_View_minutes hb0) w L _) rfl iX4 6 (by decide) q156 rfl dX7_numberOf_100 ?_
            cases hf
            exact kri C hP hS dX7_numberOf_103
          · have hf := (if_neg c5).symm.trans hf
            by_cases c6 : a1 = 5
            · have hf := (if_pos c6).symm.trans hf
              refine lv_tableIn (off := 103) (tgt := 104) C.1 C.2.1 dX7_numberOf_1 (by rw [c6]; decide) (by rw [c6]; decide) (by rw [c6]; rfl) (by decide) ?_
              refine lv_aload_n C.1 C.2.1 dX7_numberOf_104 rfl (lv_at hl 0 rfl) ?_
              refine k_get (v := .ref (wAd w (b0 + 6))) C hP (C9 C (lt_View hb0)) (ob_View hb0 w L _) rfl iX7 2 (by decide) q249 rfl dX7_numberOf_105 ?_
              refine k_get (v := .int (M (b0 + 6) 6)) C hP (C9 C (lt_Exceedances (to_View_exceedances hb0))) (ob_Exceedances (to_View_exceedances hb0) w L _) rfl iX0 6 (by decide) q199 rfl dX7_numberOf_108 ?_
              cases hf
              exact kri C hP hS dX7_numberOf_111
            · have hf := (if_neg c6).symm.trans hf
              by_cases c7 : a1 = 6
              · have hf := (if_pos c7).symm.trans hf
                refine lv_tableIn (off := 111) (tgt := 112) C.1 C.2.1 dX7_numberOf_1 (by rw [c7]; decide) (by rw [c7]; decide) (by rw [c7]; rfl) (by decide) ?_
                refine lv_aload_n C.1 C.2.1 dX7_numberOf_112 rfl (lv_at hl 0 rfl) ?_
                refine k_get (v := .ref (wAd w (b0 + 13))) C hP (C9 C (lt_View hb0)) (ob_View hb0 w L _) rfl iX7 3 (by decide) q251 rfl dX7_numberOf_113 ?_
                refine k_get (v := .int (M (b0 + 13) 3)) C hP (C9 C (lt_Matches (to_View_matches hb0))) (ob_Matches (to_View_matches hb0) w L _) rfl iX3 3 (by decide) q231 rfl dX7_numberOf_116 ?_
                cases hf
                exact kri C hP hS dX7_numberOf_119
              · have hf := (if_neg c7).symm.trans hf
                by_cases c8 : a1 = 7
                · have hf := (if_pos c8).symm.trans hf
                  refine lv_tableIn (off := 119) (tgt := 120) C.1 C.2.1 dX7_numberOf_1 (by rw [c8]; decide) (by rw [c8]; decide) (by rw [c8]; rfl) (by decide) ?_
                  refine lv_aload_n C.1 C.2.1 dX7_numberOf_120 rfl (lv_at hl 0 rfl) ?_
                  refine k_get (v := .ref (wAd w (b0 + 13))) C hP (C9 C (lt_View hb0)) (ob_View hb0 w L _) rfl iX7 3 (by decide) q251 rfl dX7_numberOf_121 ?_
                  refine k_get (v := .int (M (b0 + 13) 4)) C hP (C9 C (lt_Matches (to_View_matches hb0))) (ob_Matches (to_View_matches hb0) w L _) rfl iX3 4 (by decide) q233 rfl dX7_numberOf_124 ?_
                  cases hf
                  exact kri C hP hS dX7_numberOf_127
                · have hf := (if_neg c8).symm.trans hf
                  by_cases c9 : a1 = 8
                  · have hf := (if_pos c9).symm.trans hf
                    refine lv_tableIn (off := 127) (tgt := 128) C.1 C.2.1 dX7_numberOf_1 (by rw [c9]; decide) (by rw [c9]; decide) (by rw [c9]; rfl) (by decide) ?_
                    refine lv_aload_n C.1 C.2.1 dX7_numberOf_128 rfl (lv_at hl 0 rfl) ?_
                    refine k_get (v := .ref (wAd w (b0 + 6))) C hP (C9 C (lt_View hb0)) (ob_View hb0 w L _) rfl iX7 2 (by decide) q249 rfl dX7_numberOf_129 ?_
                    obtain ⟨r10, hr10, hf⟩ := ob hf
                    refine kci (kV (As := []) (rest := []) C hl.1 hP hS (c_X0_weightOfAll w l C.2.2.2.2.2.2.2.2 (to_View_exceedances hb0) (L := L) hr10) (gV q372 q373 q374 q7 q375) hd_X0_weightOfAll (C9 C (lt_Exceedances (to_View_exceedances hb0))) (ob_Exceedances (to_View_exceedances hb0) w L _) rfl ⟨rfl, rfl⟩ ⟨Nat.le_of_ble_eq_true rfl, Nat.le_of_ble_eq_true rfl⟩ rfl rfl (Nat.le_of_ble_eq_true rfl) dX7_numberOf_132 ⟨Nat.zero_le _, Nat.zero_le _⟩) hS (fun H locs hP hS => ?_)
                    cases hf
                    exact kri C hP hS dX7_numberOf_135
                  · have hf := (if_neg c9).symm.trans hf
                    by_cases c11 : a1 = 9
                    · have hf := (if_pos c11).symm.trans hf
                      refine lv_tableIn (off := 135) (tgt := 136) C.1 C.2.1 dX7_numberOf_1 (by rw [c11]; decide) (by rw [c11]; decide) (by rw [c11]; rfl) (by decide) ?_
                      refine lv_aload_n C.1 C.2.1 dX7_numberOf_136 rfl (lv_at hl 0 rfl) ?_
                      refine k_get (v := .ref (wAd w (b0 + 6))) C hP (C9 C (lt_View hb0)) (ob_View hb0 w L _) rfl iX7 2 (by decide) q249 rfl dX7_numberOf_137 ?_
                      obtain ⟨r12, hr12, hf⟩ := ob hf
                      refine kci (kV (As := []) (rest := []) C hl.1 hP hS (c_X0_heaviest w l C.2.2.2.2.2.2.2.2 (to_View_exceedances hb0) (L := L) hr12) (gV q376 q377 q378 q7 q379) hd_X0_heaviest (C9 C (lt_Exceedances (to_View_exceedances hb0))) (ob_Exceedances (to_View_exceedances hb0) w L _) rfl ⟨rfl, rfl⟩ ⟨Nat.le_of_ble_eq_true rfl, Nat.le_of_ble_eq_true rfl⟩ rfl rfl (Nat.le_of_ble_eq_true rfl) dX7_numberOf_140 ⟨Nat.zero_le _, Nat.zero_le _⟩) hS (fun H locs hP hS => ?_)
                      cases hf
                      exact kri C hP hS dX7_numberOf_143
                    · have hf := (if_neg c11).symm.trans hf
                      refine lv_tableOut (tgt := 144) C.1 C.2.1 dX7_numberOf_1 (by have e0 := ne_ti (n := 0) c1 (by decide); have e1 := ne_ti (n := 1) c2 (by decide); have e2 := ne_ti (n := 2) c3 (by decide); have e3 := ne_ti (n := 3) c4 (by decide); have e4 := ne_ti (n := 4) c5 (by decide); have e5 := ne_ti (n := 5) c6 (by decide); have e6 := ne_ti (n := 6) c7 (by decide); have e7 := ne_ti (n := 7) c8 (by decide); have e8 := ne_ti (n := 8) c9 (by decide); have e9 := ne_ti (n := 9) c11 (by decide); omega) (by decide) ?_
                      refine lv_aload_n C.1 C.2.1 dX7_numberOf_144 rfl (lv_at hl 0 rfl) ?_
                      refine k_get (v := .ref (wAd w (b0 + 6))) C hP (C9 C (lt_View hb0)) (ob_View hb0 w L _) rfl iX7 2 (by decide) q249 rfl dX7_numberOf_145 ?_
                      refine k_get (v := .int (M (b0 + 6) 7)) C hP (C9 C (lt_Exceedances (to_View_exceedances hb0))) (ob_Exceedances (to_View_exceedances hb0) w L _) rfl iX0 7 (by decide) q201 rfl dX7_numberOf_148 ?_
                      refine lv_if_eq (tgt := 158) C.1 C.2.1 dX7_numberOf_151 (by decide) (fun c13 => ?_) (fun c13 => ?_)
                      · have hf := (if_pos c13).symm.trans hf
                        refine lv_iconst (v := 0) C.1 C.2.1 dX7_numberOf_158 (by decide) ?_
                        cases hf
                        exact kri C hP hS dX7_numberOf_159
                      · have hf := (if_neg c13).symm.trans hf
                        refine lv_iconst (v := 1) C.1 C.2.1 dX7_numberOf_154 (by decide) ?_
                        refine lv_goto (tgt := 159) C.1 C.2.1 dX7_numberOf_155 (by decide) ?_
                        cases hf
                        exact kri C hP hS dX7_numberOf_159
theorem dX7_isAboveWithLimit_0 : decode cX7_isAboveWithLimit 0 = .ok (.aload_n 0, 1) := by decide +kernel
theorem dX7_isAboveWithLimit_1 : decode cX7_isAboveWithLimit 1 = .ok (.getfield 26, 3) := by decide +kernel
theorem dX7_isAboveWithLimit_4 : decode cX7_isAboveWithLimit 4 = .ok (.iload_n 1, 1) := by decide +kernel
theorem dX7_isAboveWithLimit_5 : decode cX7_isAboveWithLimit 5 = .ok (.invokevirtual 110, 3) := by decide +kernel
theorem dX7_isAboveWithLimit_8 : decode cX7_isAboveWithLimit 8 = .ok (.ifCond .ne 5, 3) := by decide +kernel
theorem dX7_isAboveWithLimit_11 : decode cX7_isAboveWithLimit 11 = .ok (.iconst 0, 1) := by decide +kernel
theorem dX7_isAboveWithLimit_12 : decode cX7_isAboveWithLimit 12 = .ok (.ireturn, 1) := by decide +kernel
theorem dX7_isAboveWithLimit_13 : decode cX7_isAboveWithLimit 13 = .ok (.iload_n 1, 1) := by decide +kernel
theorem dX7_isAboveWithLimit_14 : decode cX7_isAboveWithLimit 14 = .ok (.aload_n 0, 1) := by decide +kernel
theorem dX7_isAboveWithLimit_15 : decode cX7_isAboveWithLimit 15 = .ok (.getfield 18, 3) := by decide +kernel
theorem dX7_isAboveWithLimit_18 : decode cX7_isAboveWithLimit 18 = .ok (.invokestatic 114, 3) := by decide +kernel
theorem dX7_isAboveWithLimit_21 : decode cX7_isAboveWithLimit 21 = .ok (.ifCond .eq 12, 3) := by decide +kernel
theorem dX7_isAboveWithLimit_24 : decode cX7_isAboveWithLimit 24 = .ok (.aload_n 0, 1) := by decide +kernel
theorem dX7_isAboveWithLimit_25 : decode cX7_isAboveWithLimit 25 = .ok (.getfield 18, 3) := by decide +kernel
theorem dX7_isAboveWithLimit_28 : decode cX7_isAboveWithLimit 28 = .ok (.iconst 1, 1) := by decide +kernel
theorem dX7_isAboveWithLimit_29 : decode cX7_isAboveWithLimit 29 = .ok (.iaload, 1) := by decide +kernel
theorem dX7_isAboveWithLimit_30 : decode cX7_isAboveWithLimit 30 = .ok (.goto 4, 3) := by decide +kernel
theorem dX7_isAboveWithLimit_33 : decode cX7_isAboveWithLimit 33 = .ok (.iload_n 2, 1) := by decide +kernel
theorem dX7_isAboveWithLimit_34 : decode cX7_isAboveWithLimit 34 = .ok (.istore_n 3, 1) := by decide +kernel
theorem dX7_isAboveWithLimit_35 : decode cX7_isAboveWithLimit 35 = .ok (.aload_n 0, 1) := by decide +kernel
theorem dX7_isAboveWithLimit_36 : decode cX7_isAboveWithLimit 36 = .ok (.getfield 26, 3) := by decide +kernel
theorem dX7_isAboveWithLimit_39 : decode cX7_isAboveWithLimit 39 = .ok (.getfield 118, 3) := by decide +kernel
theorem dX7_isAboveWithLimit_42 : decode cX7_isAboveWithLimit 42 = .ok (.iload_n 1, 1) := by decide +kernel
theorem dX7_isAboveWithLimit_43 : decode cX7_isAboveWithLimit 43 = .ok (.iaload, 1) := by decide +kernel
theorem dX7_isAboveWithLimit_44 : decode cX7_isAboveWithLimit 44 = .ok (.bipush 10, 2) := by decide +kernel
theorem dX7_isAboveWithLimit_46 : decode cX7_isAboveWithLimit 46 = .ok (.iload_n 3, 1) := by decide +kernel
theorem dX7_isAboveWithLimit_47 : decode cX7_isAboveWithLimit 47 = .ok (.imul, 1) := by decide +kernel
theorem dX7_isAboveWithLimit_48 : decode cX7_isAboveWithLimit 48 = .ok (.if_icmp .le 7, 3) := by decide +kernel
theorem dX7_isAboveWithLimit_51 : decode cX7_isAboveWithLimit 51 = .ok (.iconst 1, 1) := by decide +kernel
theorem dX7_isAboveWithLimit_52 : decode cX7_isAboveWithLimit 52 = .ok (.goto 4, 3) := by decide +kernel
theorem dX7_isAboveWithLimit_55 : decode cX7_isAboveWithLimit 55 = .ok (.iconst 0, 1) := by decide +kernel
theorem dX7_isAboveWithLimit_56 : decode cX7_isAboveWithLimit 56 = .ok (.ireturn, 1) := by decide +kernel
set_option maxHeartbeats 4000000 in
set_option maxRecDepth 100000 in
theorem w_X7_isAboveWithLimit_j34 {b0 : Nat} {w : WT} {l : Launch} {p : Program} {e : Env} {s : State} {m : MethodId} {args : Array Value} {below : List Frame} {meth : Method} {c : Code} (C : KC w p s m args meth c cX7_isAboveWithLimit 4 RX7 (some .boolean)) (hb0 : isVw b0) {v1 : Int32} {s0 : Int32} {M : Mem} {L : Lng} {out : Int32} (hf : f_X7_isAboveWithLimit_j34 b0 v1 s0 M = some out) : AtL w p l e ({ frames := 2, cells := 0, slots := 0, locals := 43 } : Room) s m args below meth c (MQ below (QI w out M L) args s 0 0 (wA w)) 4 34 M L [(0, .ref (wAd w b0)), (1, .int v1)] [.int s0] := by
  intro H locs ls hP hS hl
  unfold f_X7_isAboveWithLimit_j34 at hf
  refine lv_istore_n (lv' := [(3, .int s0), (0, .ref (wAd w b0)), (1, .int v1)]) C.1 C.2.1 dX7_isAboveWithLimit_34 rfl hl (by decide) rfl (fun ls hl => ?_)
  refine lv_aload_n C.1 C.2.1 dX7_isAboveWithLimit_35 rfl (lv_at hl 1 rfl) ?_
  refine k_get (v := .ref (wAd w (b0 + 2))) C hP (C9 C (lt_View hb0)) (ob_View hb0 w L _) rfl iX7 1 (by decide) q247 rfl dX7_isAboveWithLimit_36 ?_
  refine k_get (v := .ref (wAd w (b0 + 2 + 2))) C hP (C9 C (lt_Minutes (to_View_minutes hb0))) (ob_Minutes (to_View_minutes hb0) w L _) rfl iX4 1 (by decide) q141 rfl dX7_isAboveWithLimit_39 ?_
  refine lv_iload_n C.1 C.2.1 dX7_isAboveWithLimit_42 rfl (lv_at hl 2 rfl) ?_
  obtain ⟨x5, hx5, hf⟩ := ob hf
  refine k_iald C hP (C9 C (la_Minutes_slow (to_View_minutes hb0))) (ar_Minutes_slow (to_View_minutes hb0) w L _) hx5 dX7_isAboveWithLimit_43 ?_
  refine lv_bipush (v := 10) C.1 C.2.1 dX7_isAboveWithLimit_44 (by decide) ?_
  refine lv_iload_n C.1 C.2.1 dX7_isAboveWithLimit_46 rfl (lv_at hl 0 rfl) ?_
  refine lv_imul C.1 C.2.1 dX7_isAboveWithLimit_47 ?_
  refine lv_icmp_le (tgt := 55) C.1 C.2.1 dX7_isAboveWithLimit_48 (by decide) (fun c6 => ?_) (fun c6 => ?_)
  · have hf := (if_pos c6).symm.trans hf
    refine lv_iconst (v := 0) C.1 C.2.1 dX7_isAboveWithLimit_55 (by decide) ?_
    cases hf
    exact krz C hP hS bz0 dX7_isAboveWithLimit_56
  · have hf := (if_neg c6).symm.trans hf
    refine lv_iconst (v := 1) C.1 C.2.1 dX7_isAboveWithLimit_51 (by decide) ?_
    refine lv_goto (tgt := 56) C.1 C.2.1 dX7_isAboveWithLimit_52 (by decide) ?_
    cases hf
    exact krz C hP hS bz1 dX7_isAboveWithLimit_56
set_option maxHeartbeats 4000000 in
set_option maxRecDepth 100000 in
theorem c_X7_isAboveWithLimit (w : WT) (l : Launch) (hw : WOK w) {b0 : Nat} (hb0 : isVw b0) {a1 : Int32} {a2 : Int32} {M : Mem} {L : Lng} {out : Int32} (hf : f_X7_isAboveWithLimit b0 a1 a2 M = some out) : Met l yX7_isAboveWithLimit (Cond.code yX7_isAboveWithLimit cX7_isAboveWithLimit 4 (some .boolean) :: BG) ({ frames := 2, cells := 0, slots := 0, locals := 43 } : Room) (PRE w [.ref (wAd w b0), .int a1, .int a2] M L) (QI w out M L) 0 0 (wA w) := by
  refine kEnt hw (by decide +kernel) rfl (Nat.le_of_ble_eq_true rfl) ?_
  intro p e s m args below meth c C ls hl hP
  have hS : va_S (wA w) s.heap s.heap [] := va_S.rf
  have hl : lv_has ls 4 [(0, .ref (wAd w b0)), (1, .int a1), (2, .int a2)] := hl
  unfold f_X7_isAboveWithLimit at hf
  refine lv_aload_n C.1 C.2.1 dX7_isAboveWithLimit_0 rfl (lv_at hl 0 rfl) ?_
  refine k_get (v := .ref (wAd w (b0 + 2))) C hP (C9 C (lt_View hb0)) (ob_View hb0 w L _) rfl iX7 1 (by decide) q247 rfl dX7_isAboveWithLimit_1 ?_
  refine lv_iload_n C.1 C.2.1 dX7_isAboveWithLimit_4 rfl (lv_at hl 1 rfl) ?_
  obtain ⟨r1, hr1, hf⟩ := ob hf
  refine kci (kV (As := [.int a1]) (rest := []) C hl.1 hP hS (c_X4_isCounted w l C.2.2.2.2.2.2.2.2 (to_View_minutes hb0) (L := L) hr1) (gV q609 q556 q557 q6 q558) hd_X4_isCounted (C9 C (lt_Minutes (to_View_minutes hb0))) (ob_Minutes (to_View_minutes hb0) w L _) rfl ⟨rfl, rfl⟩ ⟨Nat.le_of_ble_eq_true rfl, Nat.le_of_ble_eq_true rfl⟩ rfl rfl (Nat.le_of_ble_eq_true rfl) dX7_isAboveWithLimit_5 ⟨Nat.zero_le _, Nat.zero_le _⟩) hS (fun H locs hP hS => ?_)
  refine lv_if_ne (tgt := 13) C.1 C.2.1 dX7_isAboveWithLimit_8 (by decide) (fun c2 => ?_) (fun c2 => ?_)
  · have hf := (if_neg c2).symm.trans hf
    refine lv_iload_n C.1 C.2.1 dX7_isAboveWithLimit_13 rfl (lv_at hl 1 rfl) ?_
    refine lv_aload_n C.1 C.2.1 dX7_isAboveWithLimit_14 rfl (lv_at hl 0 rfl) ?_
    refine k_get (v := .ref (wAd w (b0 + 1))) C hP (C9 C (lt_View hb0)) (ob_View hb0 w L _) rfl iX7 0 (by decide) q245 rfl dX7_isAboveWithLimit_15 ?_
    obtain ⟨r3, hr3, hf⟩ := ob hf
    refine kci (kSN (As := [.int a1, .ref (wAd w (b0 + 1))]) (rest := []) C hl.1 hP hS (c_X8_isRest w l C.2.2.2.2.2.2.2.2 (s_View hb0) (L := L) hr3) q438 nw9 q1 q437 hd_X8_isRest ⟨rfl, rfl⟩ ⟨Nat.le_of_ble_eq_true rfl, Nat.le_of_ble_eq_true rfl⟩ rfl rfl (Nat.le_of_ble_eq_true rfl) dX7_isAboveWithLimit_18 ⟨Nat.zero_le _, Nat.zero_le _⟩) hS (fun H locs hP hS => ?_)
    refine lv_if_eq (tgt := 33) C.1 C.2.1 dX7_isAboveWithLimit_21 (by decide) (fun c4 => ?_) (fun c4 => ?_)
    · have hf := (if_pos c4).symm.trans hf
      refine lv_iload_n C.1 C.2.1 dX7_isAboveWithLimit_33 rfl (lv_at hl 2 rfl) ?_
      exact w_X7_isAboveWithLimit_j34 C hb0 hf _ _ _ hP hS (lv_sub hl [0, 1] rfl)
    · have hf := (if_neg c4).symm.trans hf
      refine lv_aload_n C.1 C.2.1 dX7_isAboveWithLimit_24 rfl (lv_at hl 0 rfl) ?_
      refine k_get (v := .ref (wAd w (b0 + 1))) C hP (C9 C (lt_View hb0)) (ob_View hb0 w L _) rfl iX7 0 (by decide) q245 rfl dX7_isAboveWithLimit_25 ?_
      refine lv_iconst (v := 1) C.1 C.2.1 dX7_isAboveWithLimit_28 (by decide) ?_
      obtain ⟨x7, hx7, hf⟩ := ob hf
      refine k_iald C hP (C9 C (la_View_settings hb0)) (ar_View_settings hb0 w L _) hx7 dX7_isAboveWithLimit_29 ?_
      refine lv_goto (tgt := 34) C.1 C.2.1 dX7_isAboveWithLimit_30 (by decide) ?_
      exact w_X7_isAboveWithLimit_j34 C hb0 hf _ _ _ hP hS (lv_sub hl [0, 1] rfl)
  · have hf := (if_pos c2).symm.trans hf
    refine lv_iconst (v := 0) C.1 C.2.1 dX7_isAboveWithLimit_11 (by decide) ?_
    cases hf
    exact krz C hP hS bz0 dX7_isAboveWithLimit_12
theorem dX7_exceedancesWithLimit_0 : decode cX7_exceedancesWithLimit 0 = .ok (.aload_n 0, 1) := by decide +kernel
theorem dX7_exceedancesWithLimit_1 : decode cX7_exceedancesWithLimit 1 = .ok (.getfield 18, 3) := by decide +kernel
theorem dX7_exceedancesWithLimit_4 : decode cX7_exceedancesWithLimit 4 = .ok (.bipush 6, 2) := by decide +kernel
theorem dX7_exceedancesWithLimit_6 : decode cX7_exceedancesWithLimit 6 = .ok (.iaload, 1) := by decide +kernel
theorem dX7_exceedancesWithLimit_7 : decode cX7_exceedancesWithLimit 7 = .ok (.istore_n 2, 1) := by decide +kernel
theorem dX7_exceedancesWithLimit_8 : decode cX7_exceedancesWithLimit 8 = .ok (.iload_n 2, 1) := by decide +kernel
theorem dX7_exceedancesWithLimit_9 : decode cX7_exceedancesWithLimit 9 = .ok (.istore_n 3, 1) := by decide +kernel
theorem dX7_exceedancesWithLimit_10 : decode cX7_exceedancesWithLimit 10 = .ok (.iconst 0, 1) := by decide +kernel
theorem dX7_exceedancesWithLimit_11 : decode cX7_exceedancesWithLimit 11 = .ok (.istore 4, 2) := by decide +kernel
theorem dX7_exceedancesWithLimit_13 : decode cX7_exceedancesWithLimit 13 = .ok (.iconst 0, 1) := by decide +kernel
theorem dX7_exceedancesWithLimit_14 : decode cX7_exceedancesWithLimit 14 = .ok (.istore 5, 2) := by decide +kernel
theorem dX7_exceedancesWithLimit_16 : decode cX7_exceedancesWithLimit 16 = .ok (.iload 5, 2) := by decide +kernel
theorem dX7_exceedancesWithLimit_18 : decode cX7_exceedancesWithLimit 18 = .ok (.aload_n 0, 1) := by decide +kernel
theorem dX7_exceedancesWithLimit_19 : decode cX7_exceedancesWithLimit 19 = .ok (.getfield 26, 3) := by decide +kernel
theorem dX7_exceedancesWithLimit_22 : decode cX7_exceedancesWithLimit 22 = .ok (.getfield 69, 3) := by decide +kernel
theorem dX7_exceedancesWithLimit_25 : decode cX7_exceedancesWithLimit 25 = .ok (.if_icmp .ge 35, 3) := by decide +kernel
theorem dX7_exceedancesWithLimit_28 : decode cX7_exceedancesWithLimit 28 = .ok (.aload_n 0, 1) := by decide +kernel
theorem dX7_exceedancesWithLimit_29 : decode cX7_exceedancesWithLimit 29 = .ok (.iload 5, 2) := by decide +kernel
theorem dX7_exceedancesWithLimit_31 : decode cX7_exceedancesWithLimit 31 = .ok (.iload_n 1, 1) := by decide +kernel
theorem dX7_exceedancesWithLimit_32 : decode cX7_exceedancesWithLimit 32 = .ok (.invokevirtual 106, 3) := by decide +kernel
theorem dX7_exceedancesWithLimit_35 : decode cX7_exceedancesWithLimit 35 = .ok (.ifCond .eq 16, 3) := by decide +kernel
theorem dX7_exceedancesWithLimit_38 : decode cX7_exceedancesWithLimit 38 = .ok (.iload_n 3, 1) := by decide +kernel
theorem dX7_exceedancesWithLimit_39 : decode cX7_exceedancesWithLimit 39 = .ok (.iload_n 2, 1) := by decide +kernel
theorem dX7_exceedancesWithLimit_40 : decode cX7_exceedancesWithLimit 40 = .ok (.if_icmp .lt 6, 3) := by decide +kernel
theorem dX7_exceedancesWithLimit_43 : decode cX7_exceedancesWithLimit 43 = .ok (.iinc 4 1, 3) := by decide +kernel
theorem dX7_exceedancesWithLimit_46 : decode cX7_exceedancesWithLimit 46 = .ok (.iconst 0, 1) := by decide +kernel
theorem dX7_exceedancesWithLimit_47 : decode cX7_exceedancesWithLimit 47 = .ok (.istore_n 3, 1) := by decide +kernel
theorem dX7_exceedancesWithLimit_48 : decode cX7_exceedancesWithLimit 48 = .ok (.goto 6, 3) := by decide +kernel
theorem dX7_exceedancesWithLimit_51 : decode cX7_exceedancesWithLimit 51 = .ok (.iinc 3 1, 3) := by decide +kernel
theorem dX7_exceedancesWithLimit_54 : decode cX7_exceedancesWithLimit 54 = .ok (.iinc 5 1, 3) := by decide +kernel
theorem dX7_exceedancesWithLimit_57 : decode cX7_exceedancesWithLimit 57 = .ok (.goto (-41), 3) := by decide +kernel
theorem dX7_exceedancesWithLimit_60 : decode cX7_exceedancesWithLimit 60 = .ok (.iload 4, 2) := by decide +kernel
theorem dX7_exceedancesWithLimit_62 : decode cX7_exceedancesWithLimit 62 = .ok (.ireturn, 1) := by decide +kernel
set_option maxHeartbeats 4000000 in
set_option maxRecDepth 100000 in
theorem w_X7_exceedancesWithLimit_j54 {b0 : Nat} {w : WT} {l : Launch} {p : Program} {e : Env} {s : State} {m : MethodId} {args : Array Value} {below : List Frame} {meth : Method} {c : Code} (C : KC w p s m args meth c cX7_exceedancesWithLimit 6 RX7 (some .int)) (hb0 : isVw b0) {v1 : Int32} {v2 : Int32} {v3 : Int32} {v4 : Int32} {v5 : Int32} {M : Mem} {L : Lng} {Q : State → Prop} {o : (Int32 × Int32 × Int32) ⊕ (Int32)} (hf : f_X7_exceedancesWithLimit_j54 b0 v1 v2 v3 v4 v5 M = some o) (hA : ∀ z, o = .inl z → AtL w p l e ({ frames := 3, cells := 0, slots := 0, locals := 66 } : Room) s m args below meth c Q 6 16 M L [(0, .ref (wAd w b0)), (1, .int v1), (2, .int v2), (3, .int z.1), (4, .int z.2.1), (5, .int z.2.2)] []) (hE : ∀ y, o = .inr y → AtL w p l e ({ frames := 3, cells := 0, slots := 0, locals := 66 } : Room) s m args below meth c Q 6 60 M L [(4, .int y)] []) : AtL w p l e ({ frames := 3, cells := 0, slots := 0, locals := 66 } : Room) s m args below meth c Q 6 54 M L [(0, .ref (wAd w b0)), (1, .int v1), (2, .int v2), (3, .int v3), (4, .int v4), (5, .int v5)] [] := by
  intro H locs ls hP hS hl
  unfold f_X7_exceedancesWithLimit_j54 at hf
  refine lv_iinc (v := (v5 + 1)) (lv' := [(5, .int (v5 + 1)), (0, .ref (wAd w b0)), (1, .int v1), (2, .int v2), (3, .int v3), (4, .int v4)]) C.1 C.2.1 dX7_exceedancesWithLimit_54 hl (k := 5) rfl rfl (by decide) rfl (fun ls hl => ?_)
  refine lv_goto (tgt := 16) C.1 C.2.1 dX7_exceedancesWithLimit_57 (by decide) ?_
  cases hf
  exact hA _ rfl _ _ _ hP hS (lv_sub hl [1, 2, 3, 4, 5, 0] rfl)
set_option maxHeartbeats 4000000 in
set_option maxRecDepth 100000 in
theorem w_X7_exceedancesWithLimit_j46 {b0 : Nat} {w : WT} {l : Launch} {p : Program} {e : Env} {s : State} {m : MethodId} {args : Array Value} {below : List Frame} {meth : Method} {c : Code} (C : KC w p s m args meth c cX7_exceedancesWithLimit 6 RX7 (some .int)) (hb0 : isVw b0) {v1 : Int32} {v2 : Int32} {v4 : Int32} {v5 : Int32} {M : Mem} {L : Lng} {Q : State → Prop} {o : (Int32 × Int32 × Int32) ⊕ (Int32)} (hf : f_X7_exceedancesWithLimit_j46 b0 v1 v2 v4 v5 M = some o) (hA : ∀ z, o = .inl z → AtL w p l e ({ frames := 3, cells := 0, slots := 0, locals := 66 } : Room) s m args below meth c Q 6 16 M L [(0, .ref (wAd w b0)), (1, .int v1), (2, .int v2), (3, .int z.1), (4, .int z.2.1), (5, .int z.2.2)] []) (hE : ∀ y, o = .inr y → AtL w p l e ({ frames := 3, cells := 0, slots := 0, locals := 66 } : Room) s m args below meth c Q 6 60 M L [(4, .int y)] []) : AtL w p l e ({ frames := 3, cells := 0, slots := 0, locals := 66 } : Room) s m args below meth c Q 6 46 M L [(0, .ref (wAd w b0)), (1, .int v1), (2, .int v2), (4, .int v4), (5, .int v5)] [] := by
  intro H locs ls hP hS hl
  unfold f_X7_exceedancesWithLimit_j46 at hf
  refine lv_iconst (v := 0) C.1 C.2.1 dX7_exceedancesWithLimit_46 (by decide) ?_
  refine lv_istore_n (lv' := [(3, .int 0), (0, .ref (wAd w b0)), (1, .int v1), (2, .int v2), (4, .int v4), (5, .int v5)]) C.1 C.2.1 dX7_exceedancesWithLimit_47 rfl hl (by decide) rfl (fun ls hl => ?_)
  refine lv_goto (tgt := 54) C.1 C.2.1 dX7_exceedancesWithLimit_48 (by decide) ?_
  exact w_X7_exceedancesWithLimit_j54 C hb0 hf hA hE _ _ _ hP hS (lv_sub hl [1, 2, 3, 0, 4, 5] rfl)
set_option maxHeartbeats 4000000 in
set_option maxRecDepth 100000 in
theorem w_X7_exceedancesWithLimit_l16 {b0 : Nat} {w : WT} {l : Launch} {p : Program} {e : Env} {s : State} {m : MethodId} {args : Array Value} {below : List Frame} {meth : Method} {c : Code} (C : KC w p s m args meth c cX7_exceedancesWithLimit 6 RX7 (some .int)) (hb0 : isVw b0) {v1 : Int32} {v2 : Int32} {M : Mem} {L : Lng} {Q : State → Prop} (z : Int32 × Int32 × Int32) (o : (Int32 × Int32 × Int32) ⊕ (Int32)) (hf : f_X7_exceedancesWithLimit_l16 b0 v1 v2 M z = some o) (hA : ∀ z, o = .inl z → AtL w p l e ({ frames := 3, cells := 0, slots := 0, locals := 66 } : Room) s m args below meth c Q 6 16 M L [(0, .ref (wAd w b0)), (1, .int v1), (2, .int v2), (3, .int z.1), (4, .int z.2.1), (5, .int z.2.2)] []) (hE : ∀ y, o = .inr y → AtL w p l e ({ frames := 3, cells := 0, slots := 0, locals := 66 } : Room) s m args below meth c Q 6 60 M L [(4, .int y)] []) : AtL w p l e ({ frames := 3, cells := 0, slots := 0, locals := 66 } : Room) s m args below meth c Q 6 16 M L [(0, .ref (wAd w b0)), (1, .int v1), (2, .int v2), (3, .int z.1), (4, .int z.2.1), (5, .int z.2.2)] [] := by
  intro H locs ls hP hS hl
  unfold f_X7_exceedancesWithLimit_l16 at hf
  refine lv_iload C.1 C.2.1 dX7_exceedancesWithLimit_16 (lv_at hl 5 rfl) ?_
  refine lv_aload_n C.1 C.2.1 dX7_exceedancesWithLimit_18 rfl (lv_at hl 0 rfl) ?_
  refine k_get (v := .ref (wAd w (b0 + 2))) C hP (C9 C (lt_View hb0)) (ob_View hb0 w L _) rfl iX7 1 (by decide) q247 rfl dX7_exceedancesWithLimit_19 ?_
  refine k_get (v := .int (M (b0 + 2) 3)) C hP (C9 C (lt_Minutes (to_View_minutes hb0))) (ob_Minutes (to_View_minutes hb0) w L _) rfl iX4 3 (by decide) q149 rfl dX7_exceedancesWithLimit_22 ?_
  refine lv_icmp_ge (tgt := 60) C.1 C.2.1 dX7_exceedancesWithLimit_25 (by decide) (fun c2 => ?_) (fun c2 => ?_)
  · have hf := (if_pos c2).symm.trans hf
    cases hf
    exact hE _ rfl _ _ _ hP hS (lv_sub hl [4] rfl)
  · have hf := (if_neg c2).symm.trans hf
    refine lv_aload_n C.1 C.2.1 dX7_exceedancesWithLimit_28 rfl (lv_at hl 0 rfl) ?_
    refine lv_iload C.1 C.2.1 dX7_exceedancesWithLimit_29 (lv_at hl 5 rfl) ?_
    refine lv_iload_n C.1 C.2.1 dX7_exceedancesWithLimit_31 rfl (lv_at hl 1 rfl) ?_
    obtain ⟨r3, hr3, hf⟩ := ob hf
    refine kci (kV (As := [.int z.2.2, .int v1]) (rest := []) C hl.1 hP hS (c_X7_isAboveWithLimit w l C.2.2.2.2.2.2.2.2 hb0 (L := L) hr3) (gV q605 q607 qp11 q5 q608) hd_X7_isAboveWithLimit (C9 C (lt_View hb0)) (ob_View hb0 w L _) rfl ⟨rfl, rfl⟩ ⟨Nat.le_of_ble_eq_true rfl, Nat.le_of_ble_eq_true rfl⟩ rfl rfl (Nat.le_of_ble_eq_true rfl) dX7_exceedancesWithLimit_32 ⟨Nat.zero_le _, Nat.zero_le _⟩) hS (fun H locs hP hS => ?_)
    refine lv_if_eq (tgt := 51) C.1 C.2.1 dX7_exceedancesWithLimit_35 (by decide) (fun c4 => ?_) (fun c4 => ?_)
    · have hf := (if_pos c4).symm.trans hf
      refine lv_iinc (v := (z.1 + 1)) (lv' := [(3, .int (z.1 + 1)), (0, .ref (wAd w b0)), (1, .int v1), (2, .int v2), (4, .int z.2.1), (5, .int z.2.2)]) C.1 C.2.1 dX7_exceedancesWithLimit_51 hl (k := 3) rfl rfl (by decide) rfl (fun ls hl => ?_)
      exact w_X7_exceedancesWithLimit_j54 C hb0 hf hA hE _ _ _ hP hS (lv_sub hl [1, 2, 3, 0, 4, 5] rfl)
    · have hf := (if_neg c4).symm.trans hf
      refine lv_iload_n C.1 C.2.1 dX7_exceedancesWithLimit_38 rfl (lv_at hl 3 rfl) ?_
      refine lv_iload_n C.1 C.2.1 dX7_exceedancesWithLimit_39 rfl (lv_at hl 2 rfl) ?_
      refine lv_icmp_lt (tgt := 46) C.1 C.2.1 dX7_exceedancesWithLimit_40 (by decide) (fun c5 => ?_) (fun c5 => ?_)
      · have hf := (if_pos c5).symm.trans hf
        exact w_X7_exceedancesWithLimit_j46 C hb0 hf hA hE _ _ _ hP hS (lv_sub hl [0, 1, 2, 4, 5] rfl)
      · have hf := (if_neg c5).symm.trans hf
        refine lv_iinc (v := (z.2.1 + 1)) (lv' := [(4, .int (z.2.1 + 1)), (0, .ref (wAd w b0)), (1, .int v1), (2, .int v2), (3, .int z.1), (5, .int z.2.2)]) C.1 C.2.1 dX7_exceedancesWithLimit_43 hl (k := 4) rfl rfl (by decide) rfl (fun ls hl => ?_)
        exact w_X7_exceedancesWithLimit_j46 C hb0 hf hA hE _ _ _ hP hS (lv_sub hl [1, 2, 3, 0, 5] rfl)
set_option maxHeartbeats 4000000 in
set_option maxRecDepth 100000 in
theorem c_X7_exceedancesWithLimit (w : WT) (l : Launch) (hw : WOK w) {b0 : Nat} (hb0 : isVw b0) {a1 : Int32} {M : Mem} {L : Lng} {out : Int32} (hf : f_X7_exceedancesWithLimit b0 a1 M = some out) : Met l yX7_exceedancesWithLimit (Cond.code yX7_exceedancesWithLimit cX7_exceedancesWithLimit 6 (some .int) :: BG) ({ frames := 3, cells := 0, slots := 0, locals := 66 } : Room) (PRE w [.ref (wAd w b0), .int a1] M L) (QI w out M L) 0 0 (wA w) := by
  refine kEnt hw (by decide +kernel) rfl (Nat.le_of_ble_eq_true rfl) ?_
  intro p e s m args below meth c C ls hl hP
  have hS : va_S (wA w) s.heap s.heap [] := va_S.rf
  have hl : lv_has ls 6 [(0, .ref (wAd w b0)), (1, .int a1)] := hl
  unfold f_X7_exceedancesWithLimit at hf
  refine lv_aload_n C.1 C.2.1 dX7_exceedancesWithLimit_0 rfl (lv_at hl 0 rfl) ?_
  refine k_get (v := .ref (wAd w (b0 + 1))) C hP (C9 C (lt_View hb0)) (ob_View hb0 w L _) rfl iX7 0 (by decide) q245 rfl dX7_exceedancesWithLimit_1 ?_
  refine lv_bipush (v := 6) C.1 C.2.1 dX7_exceedancesWithLimit_4 (by decide) ?_
  obtain ⟨x1, hx1, hf⟩ := ob hf
  refine k_iald C hP (C9 C (la_View_settings hb0)) (ar_View_settings hb0 w L _) hx1 dX7_exceedancesWithLimit_6 ?_
  refine lv_istore_n (lv' := [(2, .int x1), (0, .ref (wAd w b0)), (1, .int a1)]) C.1 C.2.1 dX7_exceedancesWithLimit_7 rfl hl (by decide) rfl (fun ls hl => ?_)
  refine lv_iload_n C.1 C.2.1 dX7_exceedancesWithLimit_8 rfl (lv_at hl 0 rfl) ?_
  refine lv_istore_n (lv' := [(3, .int x1), (2, .int x1), (0, .ref (wAd w b0)), (1, .int a1)]) C.1 C.2.1 dX7_exceedancesWithLimit_9 rfl hl (by decide) rfl (fun ls hl => ?_)
  refine lv_iconst (v := 0) C.1 C.2.1 dX7_exceedancesWithLimit_10 (by decide) ?_
  refine lv_istore (lv' := [(4, .int 0), (3, .int x1), (2, .int x1), (0, .ref (wAd w b0)), (1, .int a1)]) C.1 C.2.1 dX7_exceedancesWithLimit_11 hl (by decide) rfl (fun ls hl => ?_)
  refine lv_iconst (v := 0) C.1 C.2.1 dX7_exceedancesWithLimit_13 (by decide) ?_
  refine lv_istore (lv' := [(5, .int 0), (4, .int 0), (3, .int x1), (2, .int x1), (0, .ref (wAd w b0)), (1, .int a1)]) C.1 C.2.1 dX7_exceedancesWithLimit_14 hl (by decide) rfl (fun ls hl => ?_)
  obtain ⟨o6, ho6, hf⟩ := ob hf
  refine loop_at (w_X7_exceedancesWithLimit_l16 C hb0) FU _ o6 ho6 ?_ _ _ _ hP hS (lv_sub hl [4, 5, 3, 2, 1, 0] rfl)
  intro H locs ls hP hS hl
  refine lv_iload C.1 C.2.1 dX7_exceedancesWithLimit_60 (lv_at hl 0 rfl) ?_
  cases hf
  exact kri C hP hS dX7_exceedancesWithLimit_62
theorem dX7_leastLimitFor_0 : decode cX7_leastLimitFor 0 = .ok (.iconst 0, 1) := by decide +kernel
theorem dX7_leastLimitFor_1 : decode cX7_leastLimitFor 1 = .ok (.istore_n 2, 1) := by decide +kernel
theorem dX7_leastLimitFor_2 : decode cX7_leastLimitFor 2 = .ok (.iload_n 2, 1) := by decide +kernel
theorem dX7_leastLimitFor_3 : decode cX7_leastLimitFor 3 = .ok (.sipush 140, 3) := by decide +kernel
theorem dX7_leastLimitFor_6 : decode cX7_leastLimitFor 6 = .ok (.if_icmp .gt 20, 3) := by decide +kernel
theorem dX7_leastLimitFor_9 : decode cX7_leastLimitFor 9 = .ok (.aload_n 0, 1) := by decide +kernel
theorem dX7_leastLimitFor_10 : decode cX7_leastLimitFor 10 = .ok (.iload_n 2, 1) := by decide +kernel
theorem dX7_leastLimitFor_11 : decode cX7_leastLimitFor 11 = .ok (.invokevirtual 102, 3) := by decide +kernel
theorem dX7_leastLimitFor_14 : decode cX7_leastLimitFor 14 = .ok (.iload_n 1, 1) := by decide +kernel
theorem dX7_leastLimitFor_15 : decode cX7_leastLimitFor 15 = .ok (.if_icmp .gt 5, 3) := by decide +kernel
theorem dX7_leastLimitFor_18 : decode cX7_leastLimitFor 18 = .ok (.iload_n 2, 1) := by decide +kernel
theorem dX7_leastLimitFor_19 : decode cX7_leastLimitFor 19 = .ok (.ireturn, 1) := by decide +kernel
theorem dX7_leastLimitFor_20 : decode cX7_leastLimitFor 20 = .ok (.iinc 2 1, 3) := by decide +kernel
theorem dX7_leastLimitFor_23 : decode cX7_leastLimitFor 23 = .ok (.goto (-21), 3) := by decide +kernel
theorem dX7_leastLimitFor_26 : decode cX7_leastLimitFor 26 = .ok (.iconst (-1), 1) := by decide +kernel
theorem dX7_leastLimitFor_27 : decode cX7_leastLimitFor 27 = .ok (.ireturn, 1) := by decide +kernel
set_option maxHeartbeats 4000000 in
set_option maxRecDepth 100000 in
theorem w_X7_leastLimitFor_l2 {b0 : Nat} {w : WT} {l : Launch} {p : Program} {e : Env} {s : State} {m : MethodId} {args : Array Value} {below : List Frame} {meth : Method} {c : Code} (C : KC w p s m args meth c cX7_leastLimitFor 3 RX7 (some .int)) (hb0 : isVw b0) {v1 : Int32} {M : Mem} {L : Lng} {out : Int32} (z : Int32) (o : (Int32) ⊕ ((Unit) ⊕ (Int32))) (hf : f_X7_leastLimitFor_l2 b0 v1 M z = some o) (hA : ∀ z, o = .inl z → AtL w p l e ({ frames := 4, cells := 0, slots := 0, locals := 91 } : Room) s m args below meth c (MQ below (QI w out M L) args s 0 0 (wA w)) 3 2 M L [(0, .ref (wAd w b0)), (1, .int v1), (2, .int z)] []) (hE : ∀ y, o = .inr y → Sum.elim (fun y => AtL w p l e ({ frames := 4, cells := 0, slots := 0, locals := 91 } : Room) s m args below meth c (MQ below (QI w out M L) args s 0 0 (wA w)) 3 26 M L [] []) (fun y => y = out) y) : AtL w p l e ({ frames := 4, cells := 0, slots := 0, locals := 91 } : Room) s m args below meth c (MQ below (QI w out M L) args s 0 0 (wA w)) 3 2 M L [(0, .ref (wAd w b0)), (1, .int v1), (2, .int z)] [] := by
  intro H locs ls hP hS hl
  unfold f_X7_leastLimitFor_l2 at hf
  refine lv_iload_n C.1 C.2.1 dX7_leastLimitFor_2 rfl (lv_at hl 2 rfl) ?_
  refine lv_sipush (v := 140) C.1 C.2.1 dX7_leastLimitFor_3 (by decide) ?_
  refine lv_icmp_gt (tgt := 26) C.1 C.2.1 dX7_leastLimitFor_6 (by decide) (fun c1 => ?_) (fun c1 => ?_)
  · have hf := (if_pos c1).symm.trans hf
    cases hf
    exact hE _ rfl _ _ _ hP hS (lv_sub hl [] rfl)
  · have hf := (if_neg c1).symm.trans hf
    refine lv_aload_n C.1 C.2.1 dX7_leastLimitFor_9 rfl (lv_at hl 0 rfl) ?_
    refine lv_iload_n C.1 C.2.1 dX7_leastLimitFor_10 rfl (lv_at hl 2 rfl) ?_
    obtain ⟨r2, hr2, hf⟩ := ob hf
    refine kci (kV (As := [.int z]) (rest := []) C hl.1 hP hS (c_X7_exceedancesWithLimit w l C.2.2.2.2.2.2.2.2 hb0 (L := L) hr2) (gV q601 q603 qp10 q5 q604) hd_X7_exceedancesWithLimit (C9 C (lt_View hb0)) (ob_View hb0 w L _) rfl ⟨rfl, rfl⟩ ⟨Nat.le_of_ble_eq_true rfl, Nat.le_of_ble_eq_true rfl⟩ rfl rfl (Nat.le_of_ble_eq_true rfl) dX7_leastLimitFor_11 ⟨Nat.zero_le _, Nat.zero_le _⟩) hS (fun H locs hP hS => ?_)
    refine lv_iload_n C.1 C.2.1 dX7_leastLimitFor_14 rfl (lv_at hl 1 rfl) ?_
    refine lv_icmp_gt (tgt := 20) C.1 C.2.1 dX7_leastLimitFor_15 (by decide) (fun c3 => ?_) (fun c3 => ?_)
    · have hf := (if_pos c3).symm.trans hf
      refine lv_iinc (v := (z + 1)) (lv' := [(2, .int (z + 1)), (0, .ref (wAd w b0)), (1, .int v1)]) C.1 C.2.1 dX7_leastLimitFor_20 hl (k := 2) rfl rfl (by decide) rfl (fun ls hl => ?_)
      refine lv_goto (tgt := 2) C.1 C.2.1 dX7_leastLimitFor_23 (by decide) ?_
      cases hf
      exact hA _ rfl _ _ _ hP hS (lv_sub hl [1, 2, 0] rfl)
    · have hf := (if_neg c3).symm.trans hf
      refine lv_iload_n C.1 C.2.1 dX7_leastLimitFor_18 rfl (lv_at hl 2 rfl) ?_
      cases hf
      cases hE _ rfl
      exact kri C hP hS dX7_leastLimitFor_19
set_option maxHeartbeats 4000000 in
set_option maxRecDepth 100000 in
theorem c_X7_leastLimitFor (w : WT) (l : Launch) (hw : WOK w) {b0 : Nat} (hb0 : isVw b0) {a1 : Int32} {M : Mem} {L : Lng} {out : Int32} (hf : f_X7_leastLimitFor b0 a1 M = some out) : Met l yX7_leastLimitFor (Cond.code yX7_leastLimitFor cX7_leastLimitFor 3 (some .int) :: BG) ({ frames := 4, cells := 0, slots := 0, locals := 91 } : Room) (PRE w [.ref (wAd w b0), .int a1] M L) (QI w out M L) 0 0 (wA w) := by
  refine kEnt hw (by decide +kernel) rfl (Nat.le_of_ble_eq_true rfl) ?_
  intro p e s m args below meth c C ls hl hP
  have hS : va_S (wA w) s.heap s.heap [] := va_S.rf
  have hl : lv_has ls 3 [(0, .ref (wAd w b0)), (1, .int a1)] := hl
  unfold f_X7_leastLimitFor at hf
  refine lv_iconst (v := 0) C.1 C.2.1 dX7_leastLimitFor_0 (by decide) ?_
  refine lv_istore_n (lv' := [(2, .int 0), (0, .ref (wAd w b0)), (1, .int a1)]) C.1 C.2.1 dX7_leastLimitFor_1 rfl hl (by decide) rfl (fun ls hl => ?_)
  obtain ⟨o4, ho4, hf⟩ := ob hf
  refine loop_at (w_X7_leastLimitFor_l2 C hb0 (out := out)) FU _ o4 ho4 ?_ _ _ _ hP hS (lv_sub hl [1, 2, 0] rfl)
  rcases o4 with o4 | o4
  · simp only [Sum.elim_inl] at hf
    intro H locs ls hP hS hl
    refine lv_iconst (v := (-1)) C.1 C.2.1 dX7_leastLimitFor_26 (by decide) ?_
    cases hf
    exact kri C hP hS dX7_leastLimitFor_27
  · simp only [Sum.elim_inr] at hf
    exact Option.some.inj hf
