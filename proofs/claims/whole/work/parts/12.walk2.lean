theorem dX4_lastSlowPlace_0 : decode cX4_lastSlowPlace 0 = .ok (.aload_n 0, 1) := by decide +kernel
theorem dX4_lastSlowPlace_1 : decode cX4_lastSlowPlace 1 = .ok (.getfield 30, 3) := by decide +kernel
theorem dX4_lastSlowPlace_4 : decode cX4_lastSlowPlace 4 = .ok (.iconst 1, 1) := by decide +kernel
theorem dX4_lastSlowPlace_5 : decode cX4_lastSlowPlace 5 = .ok (.if_icmp .ge 7, 3) := by decide +kernel
theorem dX4_lastSlowPlace_8 : decode cX4_lastSlowPlace 8 = .ok (.iconst 0, 1) := by decide +kernel
theorem dX4_lastSlowPlace_9 : decode cX4_lastSlowPlace 9 = .ok (.goto 14, 3) := by decide +kernel
theorem dX4_lastSlowPlace_12 : decode cX4_lastSlowPlace 12 = .ok (.aload_n 0, 1) := by decide +kernel
theorem dX4_lastSlowPlace_13 : decode cX4_lastSlowPlace 13 = .ok (.getfield 15, 3) := by decide +kernel
theorem dX4_lastSlowPlace_16 : decode cX4_lastSlowPlace 16 = .ok (.aload_n 0, 1) := by decide +kernel
theorem dX4_lastSlowPlace_17 : decode cX4_lastSlowPlace 17 = .ok (.getfield 30, 3) := by decide +kernel
theorem dX4_lastSlowPlace_20 : decode cX4_lastSlowPlace 20 = .ok (.iconst 1, 1) := by decide +kernel
theorem dX4_lastSlowPlace_21 : decode cX4_lastSlowPlace 21 = .ok (.isub, 1) := by decide +kernel
theorem dX4_lastSlowPlace_22 : decode cX4_lastSlowPlace 22 = .ok (.iaload, 1) := by decide +kernel
theorem dX4_lastSlowPlace_23 : decode cX4_lastSlowPlace 23 = .ok (.ireturn, 1) := by decide +kernel
set_option maxHeartbeats 4000000 in
set_option maxRecDepth 100000 in
theorem c_X4_lastSlowPlace (w : WT) (l : Launch) (hw : WOK w) {b0 : Nat} (hb0 : isMn b0) {M : Mem} {L : Lng} {out : Int32} (hf : f_X4_lastSlowPlace b0 M = some out) : Met l yX4_lastSlowPlace (Cond.code yX4_lastSlowPlace cX4_lastSlowPlace 1 (some .int) :: BG) ({ frames := 0, cells := 0, slots := 0, locals := 0 } : Room) (PRE w [.ref (wAd w b0)] M L) (QI w out M L) 0 0 (wA w) := by
  refine kEnt hw (by decide +kernel) rfl (Nat.le_of_ble_eq_true rfl) ?_
  intro p e s m args below meth c C ls hl hP
  have hS : va_S (wA w) s.heap s.heap [] := va_S.rf
  have hl : lv_has ls 1 [(0, .ref (wAd w b0))] := hl
  unfold f_X4_lastSlowPlace at hf
  refine lv_aload_n C.1 C.2.1 dX4_lastSlowPlace_0 rfl (lv_at hl 0 rfl) ?_
  refine k_get (v := .int (M b0 3)) C hP (lt_Minutes hb0) (ob_Minutes hb0 w L _) rfl iX4 3 (by decide) q157 rfl dX4_lastSlowPlace_1 ?_
  refine lv_iconst (v := 1) C.1 C.2.1 dX4_lastSlowPlace_4 (by decide) ?_
  refine lv_icmp_ge (tgt := 12) C.1 C.2.1 dX4_lastSlowPlace_5 (by decide) (fun c1 => ?_) (fun c1 => ?_)
  · have hf := (if_pos c1).symm.trans hf
    refine lv_aload_n C.1 C.2.1 dX4_lastSlowPlace_12 rfl (lv_at hl 0 rfl) ?_
    refine k_get (v := .ref (wAd w (b0 + 2))) C hP (lt_Minutes hb0) (ob_Minutes hb0 w L _) rfl iX4 1 (by decide) q150 rfl dX4_lastSlowPlace_13 ?_
    refine lv_aload_n C.1 C.2.1 dX4_lastSlowPlace_16 rfl (lv_at hl 0 rfl) ?_
    refine k_get (v := .int (M b0 3)) C hP (lt_Minutes hb0) (ob_Minutes hb0 w L _) rfl iX4 3 (by decide) q157 rfl dX4_lastSlowPlace_17 ?_
    refine lv_iconst (v := 1) C.1 C.2.1 dX4_lastSlowPlace_20 (by decide) ?_
    refine lv_isub C.1 C.2.1 dX4_lastSlowPlace_21 ?_
    obtain ⟨x2, hx2, hf⟩ := ob hf
    refine k_iald C hP (la_Minutes_slow hb0) (ar_Minutes_slow hb0 w L _) hx2 dX4_lastSlowPlace_22 ?_
    cases hf
    exact kri C hP hS dX4_lastSlowPlace_23
  · have hf := (if_neg c1).symm.trans hf
    refine lv_iconst (v := 0) C.1 C.2.1 dX4_lastSlowPlace_8 (by decide) ?_
    refine lv_goto (tgt := 23) C.1 C.2.1 dX4_lastSlowPlace_9 (by decide) ?_
    cases hf
    exact kri C hP hS dX4_lastSlowPlace_23
theorem dX4_shareAbove_0 : decode cX4_shareAbove 0 = .ok (.aload_n 0, 1) := by decide +kernel
theorem dX4_shareAbove_1 : decode cX4_shareAbove 1 = .ok (.getfield 51, 3) := by decide +kernel
theorem dX4_shareAbove_4 : decode cX4_shareAbove 4 = .ok (.iconst 1, 1) := by decide +kernel
theorem dX4_shareAbove_5 : decode cX4_shareAbove 5 = .ok (.if_icmp .ge 7, 3) := by decide +kernel
theorem dX4_shareAbove_8 : decode cX4_shareAbove 8 = .ok (.dconst 0, 1) := by decide +kernel
theorem dX4_shareAbove_9 : decode cX4_shareAbove 9 = .ok (.goto 14, 3) := by decide +kernel
theorem dX4_shareAbove_12 : decode cX4_shareAbove 12 = .ok (.aload_n 0, 1) := by decide +kernel
theorem dX4_shareAbove_13 : decode cX4_shareAbove 13 = .ok (.getfield 57, 3) := by decide +kernel
theorem dX4_shareAbove_16 : decode cX4_shareAbove 16 = .ok (.i2d, 1) := by decide +kernel
theorem dX4_shareAbove_17 : decode cX4_shareAbove 17 = .ok (.aload_n 0, 1) := by decide +kernel
theorem dX4_shareAbove_18 : decode cX4_shareAbove 18 = .ok (.getfield 51, 3) := by decide +kernel
theorem dX4_shareAbove_21 : decode cX4_shareAbove 21 = .ok (.i2d, 1) := by decide +kernel
theorem dX4_shareAbove_22 : decode cX4_shareAbove 22 = .ok (.ddiv, 1) := by decide +kernel
theorem dX4_shareAbove_23 : decode cX4_shareAbove 23 = .ok (.dreturn, 1) := by decide +kernel
set_option maxHeartbeats 4000000 in
set_option maxRecDepth 100000 in
theorem c_X4_shareAbove (w : WT) (l : Launch) (hw : WOK w) {b0 : Nat} (hb0 : isMn b0) {M : Mem} {L : Lng} {out : UInt64} (hf : f_X4_shareAbove b0 M = some out) : Met l yX4_shareAbove (Cond.code yX4_shareAbove cX4_shareAbove 1 (some .double) :: BG) ({ frames := 0, cells := 0, slots := 0, locals := 0 } : Room) (PRE w [.ref (wAd w b0)] M L) (QD w out M L) 0 0 (wA w) := by
  refine kEnt hw (by decide +kernel) rfl (Nat.le_of_ble_eq_true rfl) ?_
  intro p e s m args below meth c C ls hl hP
  have hS : va_S (wA w) s.heap s.heap [] := va_S.rf
  have hl : lv_has ls 1 [(0, .ref (wAd w b0))] := hl
  unfold f_X4_shareAbove at hf
  refine lv_aload_n C.1 C.2.1 dX4_shareAbove_0 rfl (lv_at hl 0 rfl) ?_
  refine k_get (v := .int (M b0 4)) C hP (lt_Minutes hb0) (ob_Minutes hb0 w L _) rfl iX4 4 (by decide) q161 rfl dX4_shareAbove_1 ?_
  refine lv_iconst (v := 1) C.1 C.2.1 dX4_shareAbove_4 (by decide) ?_
  refine lv_icmp_ge (tgt := 12) C.1 C.2.1 dX4_shareAbove_5 (by decide) (fun c1 => ?_) (fun c1 => ?_)
  · have hf := (if_pos c1).symm.trans hf
    refine lv_aload_n C.1 C.2.1 dX4_shareAbove_12 rfl (lv_at hl 0 rfl) ?_
    refine k_get (v := .int (M b0 6)) C hP (lt_Minutes hb0) (ob_Minutes hb0 w L _) rfl iX4 6 (by decide) q166 rfl dX4_shareAbove_13 ?_
    refine lv_i2d C.1 C.2.1 dX4_shareAbove_16 ?_
    refine lv_aload_n C.1 C.2.1 dX4_shareAbove_17 rfl (lv_at hl 0 rfl) ?_
    refine k_get (v := .int (M b0 4)) C hP (lt_Minutes hb0) (ob_Minutes hb0 w L _) rfl iX4 4 (by decide) q161 rfl dX4_shareAbove_18 ?_
    refine lv_i2d C.1 C.2.1 dX4_shareAbove_21 ?_
    obtain ⟨x2, hx2, hf⟩ := ob hf
    refine k_ddiv C hx2 dX4_shareAbove_22 ?_
    cases hf
    exact krd C hP hS dX4_shareAbove_23
  · have hf := (if_neg c1).symm.trans hf
    refine lv_dconst0 C.1 C.2.1 dX4_shareAbove_8 ?_
    refine lv_goto (tgt := 23) C.1 C.2.1 dX4_shareAbove_9 (by decide) ?_
    cases hf
    exact krd C hP hS dX4_shareAbove_23
theorem dX5_hasMinute_0 : decode cX5_hasMinute 0 = .ok (.iload_n 1, 1) := by decide +kernel
theorem dX5_hasMinute_1 : decode cX5_hasMinute 1 = .ok (.ifCond .lt 15, 3) := by decide +kernel
theorem dX5_hasMinute_4 : decode cX5_hasMinute 4 = .ok (.iload_n 1, 1) := by decide +kernel
theorem dX5_hasMinute_5 : decode cX5_hasMinute 5 = .ok (.aload_n 0, 1) := by decide +kernel
theorem dX5_hasMinute_6 : decode cX5_hasMinute 6 = .ok (.getfield 32, 3) := by decide +kernel
theorem dX5_hasMinute_9 : decode cX5_hasMinute 9 = .ok (.if_icmp .ge 7, 3) := by decide +kernel
theorem dX5_hasMinute_12 : decode cX5_hasMinute 12 = .ok (.iconst 1, 1) := by decide +kernel
theorem dX5_hasMinute_13 : decode cX5_hasMinute 13 = .ok (.goto 4, 3) := by decide +kernel
theorem dX5_hasMinute_16 : decode cX5_hasMinute 16 = .ok (.iconst 0, 1) := by decide +kernel
theorem dX5_hasMinute_17 : decode cX5_hasMinute 17 = .ok (.ireturn, 1) := by decide +kernel
set_option maxHeartbeats 4000000 in
set_option maxRecDepth 100000 in
theorem c_X5_hasMinute (w : WT) (l : Launch) (hw : WOK w) {b0 : Nat} (hb0 : isSt b0) {a1 : Int32} {M : Mem} {L : Lng} {out : Int32} (hf : f_X5_hasMinute b0 a1 M = some out) : Met l yX5_hasMinute (Cond.code yX5_hasMinute cX5_hasMinute 2 (some .boolean) :: BG) ({ frames := 0, cells := 0, slots := 0, locals := 0 } : Room) (PRE w [.ref (wAd w b0), .int a1] M L) (QI w out M L) 0 0 (wA w) := by
  refine kEnt hw (by decide +kernel) rfl (Nat.le_of_ble_eq_true rfl) ?_
  intro p e s m args below meth c C ls hl hP
  have hS : va_S (wA w) s.heap s.heap [] := va_S.rf
  have hl : lv_has ls 2 [(0, .ref (wAd w b0)), (1, .int a1)] := hl
  unfold f_X5_hasMinute at hf
  refine lv_iload_n C.1 C.2.1 dX5_hasMinute_0 rfl (lv_at hl 1 rfl) ?_
  refine lv_if_lt (tgt := 16) C.1 C.2.1 dX5_hasMinute_1 (by decide) (fun c1 => ?_) (fun c1 => ?_)
  · have hf := (if_pos c1).symm.trans hf
    refine lv_iconst (v := 0) C.1 C.2.1 dX5_hasMinute_16 (by decide) ?_
    cases hf
    exact krz C hP hS bz0 dX5_hasMinute_17
  · have hf := (if_neg c1).symm.trans hf
    refine lv_iload_n C.1 C.2.1 dX5_hasMinute_4 rfl (lv_at hl 1 rfl) ?_
    refine lv_aload_n C.1 C.2.1 dX5_hasMinute_5 rfl (lv_at hl 0 rfl) ?_
    refine k_get (v := .int (M b0 4)) C hP (lt_State hb0) (ob_State hb0 w L _) rfl iX5 4 (by decide) q55 rfl dX5_hasMinute_6 ?_
    refine lv_icmp_ge (tgt := 16) C.1 C.2.1 dX5_hasMinute_9 (by decide) (fun c2 => ?_) (fun c2 => ?_)
    · have hf := (if_pos c2).symm.trans hf
      refine lv_iconst (v := 0) C.1 C.2.1 dX5_hasMinute_16 (by decide) ?_
      cases hf
      exact krz C hP hS bz0 dX5_hasMinute_17
    · have hf := (if_neg c2).symm.trans hf
      refine lv_iconst (v := 1) C.1 C.2.1 dX5_hasMinute_12 (by decide) ?_
      refine lv_goto (tgt := 17) C.1 C.2.1 dX5_hasMinute_13 (by decide) ?_
      cases hf
      exact krz C hP hS bz1 dX5_hasMinute_17
theorem dX5_hasComplaint_0 : decode cX5_hasComplaint 0 = .ok (.iload_n 1, 1) := by decide +kernel
theorem dX5_hasComplaint_1 : decode cX5_hasComplaint 1 = .ok (.ifCond .lt 15, 3) := by decide +kernel
theorem dX5_hasComplaint_4 : decode cX5_hasComplaint 4 = .ok (.iload_n 1, 1) := by decide +kernel
theorem dX5_hasComplaint_5 : decode cX5_hasComplaint 5 = .ok (.aload_n 0, 1) := by decide +kernel
theorem dX5_hasComplaint_6 : decode cX5_hasComplaint 6 = .ok (.getfield 36, 3) := by decide +kernel
theorem dX5_hasComplaint_9 : decode cX5_hasComplaint 9 = .ok (.if_icmp .ge 7, 3) := by decide +kernel
theorem dX5_hasComplaint_12 : decode cX5_hasComplaint 12 = .ok (.iconst 1, 1) := by decide +kernel
theorem dX5_hasComplaint_13 : decode cX5_hasComplaint 13 = .ok (.goto 4, 3) := by decide +kernel
theorem dX5_hasComplaint_16 : decode cX5_hasComplaint 16 = .ok (.iconst 0, 1) := by decide +kernel
theorem dX5_hasComplaint_17 : decode cX5_hasComplaint 17 = .ok (.ireturn, 1) := by decide +kernel
set_option maxHeartbeats 4000000 in
set_option maxRecDepth 100000 in
theorem c_X5_hasComplaint (w : WT) (l : Launch) (hw : WOK w) {b0 : Nat} (hb0 : isSt b0) {a1 : Int32} {M : Mem} {L : Lng} {out : Int32} (hf : f_X5_hasComplaint b0 a1 M = some out) : Met l yX5_hasComplaint (Cond.code yX5_hasComplaint cX5_hasComplaint 2 (some .boolean) :: BG) ({ frames := 0, cells := 0, slots := 0, locals := 0 } : Room) (PRE w [.ref (wAd w b0), .int a1] M L) (QI w out M L) 0 0 (wA w) := by
  refine kEnt hw (by decide +kernel) rfl (Nat.le_of_ble_eq_true rfl) ?_
  intro p e s m args below meth c C ls hl hP
  have hS : va_S (wA w) s.heap s.heap [] := va_S.rf
  have hl : lv_has ls 2 [(0, .ref (wAd w b0)), (1, .int a1)] := hl
  unfold f_X5_hasComplaint at hf
  refine lv_iload_n C.1 C.2.1 dX5_hasComplaint_0 rfl (lv_at hl 1 rfl) ?_
  refine lv_if_lt (tgt := 16) C.1 C.2.1 dX5_hasComplaint_1 (by decide) (fun c1 => ?_) (fun c1 => ?_)
  · have hf := (if_pos c1).symm.trans hf
    refine lv_iconst (v := 0) C.1 C.2.1 dX5_hasComplaint_16 (by decide) ?_
    cases hf
    exact krz C hP hS bz0 dX5_hasComplaint_17
  · have hf := (if_neg c1).symm.trans hf
    refine lv_iload_n C.1 C.2.1 dX5_hasComplaint_4 rfl (lv_at hl 1 rfl) ?_
    refine lv_aload_n C.1 C.2.1 dX5_hasComplaint_5 rfl (lv_at hl 0 rfl) ?_
    refine k_get (v := .int (M b0 5)) C hP (lt_State hb0) (ob_State hb0 w L _) rfl iX5 5 (by decide) q58 rfl dX5_hasComplaint_6 ?_
    refine lv_icmp_ge (tgt := 16) C.1 C.2.1 dX5_hasComplaint_9 (by decide) (fun c2 => ?_) (fun c2 => ?_)
    · have hf := (if_pos c2).symm.trans hf
      refine lv_iconst (v := 0) C.1 C.2.1 dX5_hasComplaint_16 (by decide) ?_
      cases hf
      exact krz C hP hS bz0 dX5_hasComplaint_17
    · have hf := (if_neg c2).symm.trans hf
      refine lv_iconst (v := 1) C.1 C.2.1 dX5_hasComplaint_12 (by decide) ?_
      refine lv_goto (tgt := 17) C.1 C.2.1 dX5_hasComplaint_13 (by decide) ?_
      cases hf
      exact krz C hP hS bz1 dX5_hasComplaint_17
theorem dX5_addMinutes_0 : decode cX5_addMinutes 0 = .ok (.iconst 0, 1) := by decide +kernel
theorem dX5_addMinutes_1 : decode cX5_addMinutes 1 = .ok (.istore 4, 2) := by decide +kernel
theorem dX5_addMinutes_3 : decode cX5_addMinutes 3 = .ok (.iload 4, 2) := by decide +kernel
theorem dX5_addMinutes_5 : decode cX5_addMinutes 5 = .ok (.iload_n 3, 1) := by decide +kernel
theorem dX5_addMinutes_6 : decode cX5_addMinutes 6 = .ok (.if_icmp .ge 49, 3) := by decide +kernel
theorem dX5_addMinutes_9 : decode cX5_addMinutes 9 = .ok (.aload_n 0, 1) := by decide +kernel
theorem dX5_addMinutes_10 : decode cX5_addMinutes 10 = .ok (.getfield 32, 3) := by decide +kernel
theorem dX5_addMinutes_13 : decode cX5_addMinutes 13 = .ok (.sipush 200, 3) := by decide +kernel
theorem dX5_addMinutes_16 : decode cX5_addMinutes 16 = .ok (.if_icmp .ge 39, 3) := by decide +kernel
theorem dX5_addMinutes_19 : decode cX5_addMinutes 19 = .ok (.aload_n 0, 1) := by decide +kernel
theorem dX5_addMinutes_20 : decode cX5_addMinutes 20 = .ok (.getfield 9, 3) := by decide +kernel
theorem dX5_addMinutes_23 : decode cX5_addMinutes 23 = .ok (.aload_n 0, 1) := by decide +kernel
theorem dX5_addMinutes_24 : decode cX5_addMinutes 24 = .ok (.getfield 32, 3) := by decide +kernel
theorem dX5_addMinutes_27 : decode cX5_addMinutes 27 = .ok (.iload_n 1, 1) := by decide +kernel
theorem dX5_addMinutes_28 : decode cX5_addMinutes 28 = .ok (.iastore, 1) := by decide +kernel
theorem dX5_addMinutes_29 : decode cX5_addMinutes 29 = .ok (.aload_n 0, 1) := by decide +kernel
theorem dX5_addMinutes_30 : decode cX5_addMinutes 30 = .ok (.getfield 15, 3) := by decide +kernel
theorem dX5_addMinutes_33 : decode cX5_addMinutes 33 = .ok (.aload_n 0, 1) := by decide +kernel
theorem dX5_addMinutes_34 : decode cX5_addMinutes 34 = .ok (.getfield 32, 3) := by decide +kernel
theorem dX5_addMinutes_37 : decode cX5_addMinutes 37 = .ok (.iload_n 2, 1) := by decide +kernel
theorem dX5_addMinutes_38 : decode cX5_addMinutes 38 = .ok (.iastore, 1) := by decide +kernel
theorem dX5_addMinutes_39 : decode cX5_addMinutes 39 = .ok (.aload_n 0, 1) := by decide +kernel
theorem dX5_addMinutes_40 : decode cX5_addMinutes 40 = .ok (.dup, 1) := by decide +kernel
theorem dX5_addMinutes_41 : decode cX5_addMinutes 41 = .ok (.getfield 32, 3) := by decide +kernel
theorem dX5_addMinutes_44 : decode cX5_addMinutes 44 = .ok (.iconst 1, 1) := by decide +kernel
theorem dX5_addMinutes_45 : decode cX5_addMinutes 45 = .ok (.iadd, 1) := by decide +kernel
theorem dX5_addMinutes_46 : decode cX5_addMinutes 46 = .ok (.putfield 32, 3) := by decide +kernel
theorem dX5_addMinutes_49 : decode cX5_addMinutes 49 = .ok (.iinc 4 1, 3) := by decide +kernel
theorem dX5_addMinutes_52 : decode cX5_addMinutes 52 = .ok (.goto (-49), 3) := by decide +kernel
theorem dX5_addMinutes_55 : decode cX5_addMinutes 55 = .ok (.return_, 1) := by decide +kernel
set_option maxHeartbeats 4000000 in
set_option maxRecDepth 100000 in
theorem w_X5_addMinutes_l3 {b0 : Nat} {w : WT} {l : Launch} {p : Program} {e : Env} {s : State} {m : MethodId} {args : Array Value} {below : List Frame} {meth : Method} {c : Code} (C : KC w p s m args meth c cX5_addMinutes 5 RX5 none) (hb0 : isSt b0) {v1 : Int32} {v2 : Int32} {v3 : Int32} {L : Lng} {Q : State → Prop} (z : Int32 × Mem) (o : (Int32 × Mem) ⊕ (Mem)) (hf : f_X5_addMinutes_l3 b0 v1 v2 v3 z = some o) (hA : ∀ z, o = .inl z → AtL w p l e ({ frames := 0, cells := 0, slots := 0, locals := 0 } : Room) s m args below meth c Q 5 3 z.2 L [(0, .ref (wAd w b0)), (1, .int v1), (2, .int v2), (3, .int v3), (4, .int z.1)] []) (hE : ∀ y, o = .inr y → AtL w p l e ({ frames := 0, cells := 0, slots := 0, locals := 0 } : Room) s m args below meth c Q 5 55 y L [] []) : AtL w p l e ({ frames := 0, cells := 0, slots := 0, locals := 0 } : Room) s m args below meth c Q 5 3 z.2 L [(0, .ref (wAd w b0)), (1, .int v1), (2, .int v2), (3, .int v3), (4, .int z.1)] [] := by
  intro H locs ls hP hS hl
  unfold f_X5_addMinutes_l3 at hf
  refine lv_iload C.1 C.2.1 dX5_addMinutes_3 (lv_at hl 4 rfl) ?_
  refine lv_iload_n C.1 C.2.1 dX5_addMinutes_5 rfl (lv_at hl 3 rfl) ?_
  refine lv_icmp_ge (tgt := 55) C.1 C.2.1 dX5_addMinutes_6 (by decide) (fun c1 => ?_) (fun c1 => ?_)
  · have hf := (if_pos c1).symm.trans hf
    cases hf
    exact hE _ rfl _ _ _ hP hS (lv_sub hl [] rfl)
  · have hf := (if_neg c1).symm.trans hf
    refine lv_aload_n C.1 C.2.1 dX5_addMinutes_9 rfl (lv_at hl 0 rfl) ?_
    refine k_get (v := .int (z.2 b0 4)) C hP (lt_State hb0) (ob_State hb0 w L _) rfl iX5 4 (by decide) q55 rfl dX5_addMinutes_10 ?_
    refine lv_sipush (v := 200) C.1 C.2.1 dX5_addMinutes_13 (by decide) ?_
    refine lv_icmp_ge (tgt := 55) C.1 C.2.1 dX5_addMinutes_16 (by decide) (fun c2 => ?_) (fun c2 => ?_)
    · have hf := (if_pos c2).symm.trans hf
      cases hf
      exact hE _ rfl _ _ _ hP hS (lv_sub hl [] rfl)
    · have hf := (if_neg c2).symm.trans hf
      refine lv_aload_n C.1 C.2.1 dX5_addMinutes_19 rfl (lv_at hl 0 rfl) ?_
      refine k_get (v := .ref (wAd w (b0 + 1))) C hP (lt_State hb0) (ob_State hb0 w L _) rfl iX5 0 (by decide) q43 rfl dX5_addMinutes_20 ?_
      refine lv_aload_n C.1 C.2.1 dX5_addMinutes_23 rfl (lv_at hl 0 rfl) ?_
      refine k_get (v := .int (z.2 b0 4)) C hP (lt_State hb0) (ob_State hb0 w L _) rfl iX5 4 (by decide) q55 rfl dX5_addMinutes_24 ?_
      refine lv_iload_n C.1 C.2.1 dX5_addMinutes_27 rfl (lv_at hl 1 rfl) ?_
      obtain ⟨M3, hM3, hf⟩ := ob hf
      refine k_iast C hP hS (la_State_levels hb0) (ar_State_levels hb0 w L) hM3 dX5_addMinutes_28 (fun H locs hP hS => ?_)
      refine lv_aload_n C.1 C.2.1 dX5_addMinutes_29 rfl (lv_at hl 0 rfl) ?_
      refine k_get (v := .ref (wAd w (b0 + 2))) C hP (lt_State hb0) (ob_State hb0 w L _) rfl iX5 1 (by decide) q46 rfl dX5_addMinutes_30 ?_
      refine lv_aload_n C.1 C.2.1 dX5_addMinutes_33 rfl (lv_at hl 0 rfl) ?_
      refine k_get (v := .int (M3 b0 4)) C hP (lt_State hb0) (ob_State hb0 w L _) rfl iX5 4 (by decide) q55 rfl dX5_addMinutes_34 ?_
      refine lv_iload_n C.1 C.2.1 dX5_addMinutes_37 rfl (lv_at hl 2 rfl) ?_
      obtain ⟨M4, hM4, hf⟩ := ob hf
      refine k_iast C hP hS (la_State_winds hb0) (ar_State_winds hb0 w L) hM4 dX5_addMinutes_38 (fun H locs hP hS => ?_)
      refine lv_aload_n C.1 C.2.1 dX5_addMinutes_39 rfl (lv_at hl 0 rfl) ?_
      refine lv_dup C.1 C.2.1 dX5_addMinutes_40 rfl ?_
      refine k_get (v := .int (M4 b0 4)) C hP (lt_State hb0) (ob_State hb0 w L _) rfl iX5 4 (by decide) q55 rfl dX5_addMinutes_41 ?_
      refine lv_iconst (v := 1) C.1 C.2.1 dX5_addMinutes_44 (by decide) ?_
      refine lv_iadd C.1 C.2.1 dX5_addMinutes_45 ?_
      obtain ⟨M5, hM5, hf⟩ := ob hf
      refine k_puti C hP hS (lt_State hb0) (fun row => ob_State hb0 w L row) rfl iX5 tyX5 tyX5_ok nmX5 4 (by decide) q55 rfl rfl (Nat.le_of_ble_eq_true rfl) rfl hM5 dX5_addMinutes_46 (fun H locs hP hS => ?_)
      refine lv_iinc (v := (z.1 + 1)) (lv' := [(4, .int (z.1 + 1)), (0, .ref (wAd w b0)), (1, .int v1), (2, .int v2), (3, .int v3)]) C.1 C.2.1 dX5_addMinutes_49 hl (k := 4) rfl rfl (by decide) rfl (fun ls hl => ?_)
      refine lv_goto (tgt := 3) C.1 C.2.1 dX5_addMinutes_52 (by decide) ?_
      cases hf
      exact hA _ rfl _ _ _ hP hS (lv_sub hl [1, 2, 3, 4, 0] rfl)
set_option maxHeartbeats 4000000 in
set_option maxRecDepth 100000 in
theorem c_X5_addMinutes (w : WT) (l : Launch) (hw : WOK w) {b0 : Nat} (hb0 : isSt b0) {a1 : Int32} {a2 : Int32} {a3 : Int32} {M : Mem} {L : Lng} {out : Mem} (hf : f_X5_addMinutes b0 a1 a2 a3 M = some out) : Met l yX5_addMinutes (Cond.code yX5_addMinutes cX5_addMinutes 5 none :: BG) ({ frames := 0, cells := 0, slots := 0, locals := 0 } : Room) (PRE w [.ref (wAd w b0), .int a1, .int a2, .int a3] M L) (QV w out L) 0 0 (wA w) := by
  refine kEnt hw (by decide +kernel) rfl (Nat.le_of_ble_eq_true rfl) ?_
  intro p e s m args below meth c C ls hl hP
  have hS : va_S (wA w) s.heap s.heap [] := va_S.rf
  have hl : lv_has ls 5 [(0, .ref (wAd w b0)), (1, .int a1), (2, .int a2), (3, .int a3)] := hl
  unfold f_X5_addMinutes at hf
  refine lv_iconst (v := 0) C.1 C.2.1 dX5_addMinutes_0 (by decide) ?_
  refine lv_istore (lv' := [(4, .int 0), (0, .ref (wAd w b0)), (1, .int a1), (2, .int a2), (3, .int a3)]) C.1 C.2.1 dX5_addMinutes_1 hl (by decide) rfl (fun ls hl => ?_)
  obtain ⟨o6, ho6, hf⟩ := ob hf
  refine loop_at (w_X5_addMinutes_l3 C hb0) FU _ o6 ho6 ?_ _ _ _ hP hS (lv_sub hl [1, 2, 3, 4, 0] rfl)
  intro H locs ls hP hS hl
  cases hf
  exact krv C hP hS dX5_addMinutes_55
theorem dX5_dropMinutes_0 : decode cX5_dropMinutes 0 = .ok (.aload_n 0, 1) := by decide +kernel
theorem dX5_dropMinutes_1 : decode cX5_dropMinutes 1 = .ok (.getfield 32, 3) := by decide +kernel
theorem dX5_dropMinutes_4 : decode cX5_dropMinutes 4 = .ok (.iload_n 1, 1) := by decide +kernel
theorem dX5_dropMinutes_5 : decode cX5_dropMinutes 5 = .ok (.isub, 1) := by decide +kernel
theorem dX5_dropMinutes_6 : decode cX5_dropMinutes 6 = .ok (.istore_n 2, 1) := by decide +kernel
theorem dX5_dropMinutes_7 : decode cX5_dropMinutes 7 = .ok (.iconst 0, 1) := by decide +kernel
theorem dX5_dropMinutes_8 : decode cX5_dropMinutes 8 = .ok (.istore_n 3, 1) := by decide +kernel
theorem dX5_dropMinutes_9 : decode cX5_dropMinutes 9 = .ok (.iload_n 3, 1) := by decide +kernel
theorem dX5_dropMinutes_10 : decode cX5_dropMinutes 10 = .ok (.iload_n 2, 1) := by decide +kernel
theorem dX5_dropMinutes_11 : decode cX5_dropMinutes 11 = .ok (.if_icmp .ge 37, 3) := by decide +kernel
theorem dX5_dropMinutes_14 : decode cX5_dropMinutes 14 = .ok (.aload_n 0, 1) := by decide +kernel
theorem dX5_dropMinutes_15 : decode cX5_dropMinutes 15 = .ok (.getfield 9, 3) := by decide +kernel
theorem dX5_dropMinutes_18 : decode cX5_dropMinutes 18 = .ok (.iload_n 3, 1) := by decide +kernel
theorem dX5_dropMinutes_19 : decode cX5_dropMinutes 19 = .ok (.aload_n 0, 1) := by decide +kernel
theorem dX5_dropMinutes_20 : decode cX5_dropMinutes 20 = .ok (.getfield 9, 3) := by decide +kernel
theorem dX5_dropMinutes_23 : decode cX5_dropMinutes 23 = .ok (.iload_n 3, 1) := by decide +kernel
theorem dX5_dropMinutes_24 : decode cX5_dropMinutes 24 = .ok (.iload_n 1, 1) := by decide +kernel
theorem dX5_dropMinutes_25 : decode cX5_dropMinutes 25 = .ok (.iadd, 1) := by decide +kernel
theorem dX5_dropMinutes_26 : decode cX5_dropMinutes 26 = .ok (.iaload, 1) := by decide +kernel
theorem dX5_dropMinutes_27 : decode cX5_dropMinutes 27 = .ok (.iastore, 1) := by decide +kernel
theorem dX5_dropMinutes_28 : decode cX5_dropMinutes 28 = .ok (.aload_n 0, 1) := by decide +kernel
theorem dX5_dropMinutes_29 : decode cX5_dropMinutes 29 = .ok (.getfield 15, 3) := by decide +kernel
theorem dX5_dropMinutes_32 : decode cX5_dropMinutes 32 = .ok (.iload_n 3, 1) := by decide +kernel
theorem dX5_dropMinutes_33 : decode cX5_dropMinutes 33 = .ok (.aload_n 0, 1) := by decide +kernel
theorem dX5_dropMinutes_34 : decode cX5_dropMinutes 34 = .ok (.getfield 15, 3) := by decide +kernel
theorem dX5_dropMinutes_37 : decode cX5_dropMinutes 37 = .ok (.iload_n 3, 1) := by decide +kernel
theorem dX5_dropMinutes_38 : decode cX5_dropMinutes 38 = .ok (.iload_n 1, 1) := by decide +kernel
theorem dX5_dropMinutes_39 : decode cX5_dropMinutes 39 = .ok (.iadd, 1) := by decide +kernel
theorem dX5_dropMinutes_40 : decode cX5_dropMinutes 40 = .ok (.iaload, 1) := by decide +kernel
theorem dX5_dropMinutes_41 : decode cX5_dropMinutes 41 = .ok (.iastore, 1) := by decide +kernel
theorem dX5_dropMinutes_42 : decode cX5_dropMinutes 42 = .ok (.iinc 3 1, 3) := by decide +kernel
theorem dX5_dropMinutes_45 : decode cX5_dropMinutes 45 = .ok (.goto (-36), 3) := by decide +kernel
theorem dX5_dropMinutes_48 : decode cX5_dropMinutes 48 = .ok (.aload_n 0, 1) := by decide +kernel
theorem dX5_dropMinutes_49 : decode cX5_dropMinutes 49 = .ok (.iload_n 2, 1) := by decide +kernel
theorem dX5_dropMinutes_50 : decode cX5_dropMinutes 50 = .ok (.putfield 32, 3) := by decide +kernel
theorem dX5_dropMinutes_53 : decode cX5_dropMinutes 53 = .ok (.iconst 0, 1) := by decide +kernel
theorem dX5_dropMinutes_54 : decode cX5_dropMinutes 54 = .ok (.istore_n 3, 1) := by decide +kernel
theorem dX5_dropMinutes_55 : decode cX5_dropMinutes 55 = .ok (.iload_n 3, 1) := by decide +kernel
theorem dX5_dropMinutes_56 : decode cX5_dropMinutes 56 = .ok (.aload_n 0, 1) := by decide +kernel
theorem dX5_dropMinutes_57 : decode cX5_dropMinutes 57 = .ok (.getfield 36, 3) := by decide +kernel
theorem dX5_dropMinutes_60 : decode cX5_dropMinutes 60 = .ok (.if_icmp .ge 27, 3) := by decide +kernel
theorem dX5_dropMinutes_63 : decode cX5_dropMinutes 63 = .ok (.aload_n 0, 1) := by decide +kernel
theorem dX5_dropMinutes_64 : decode cX5_dropMinutes 64 = .ok (.getfield 29, 3) := by decide +kernel
theorem dX5_dropMinutes_67 : decode cX5_dropMinutes 67 = .ok (.iload_n 3, 1) := by decide +kernel
theorem dX5_dropMinutes_68 : decode cX5_dropMinutes 68 = .ok (.iconst 0, 1) := by decide +kernel
theorem dX5_dropMinutes_69 : decode cX5_dropMinutes 69 = .ok (.aload_n 0, 1) := by decide +kernel
theorem dX5_dropMinutes_70 : decode cX5_dropMinutes 70 = .ok (.getfield 29, 3) := by decide +kernel
theorem dX5_dropMinutes_73 : decode cX5_dropMinutes 73 = .ok (.iload_n 3, 1) := by decide +kernel
theorem dX5_dropMinutes_74 : decode cX5_dropMinutes 74 = .ok (.iaload, 1) := by decide +kernel
theorem dX5_dropMinutes_75 : decode cX5_dropMinutes 75 = .ok (.iload_n 1, 1) := by decide +kernel
theorem dX5_dropMinutes_76 : decode cX5_dropMinutes 76 = .ok (.isub, 1) := by decide +kernel
theorem dX5_dropMinutes_77 : decode cX5_dropMinutes 77 = .ok (.invokestatic 39, 3) := by decide +kernel
theorem dX5_dropMinutes_80 : decode cX5_dropMinutes 80 = .ok (.iastore, 1) := by decide +kernel
theorem dX5_dropMinutes_81 : decode cX5_dropMinutes 81 = .ok (.iinc 3 1, 3) := by decide +kernel
theorem dX5_dropMinutes_84 : decode cX5_dropMinutes 84 = .ok (.goto (-29), 3) := by decide +kernel
theorem dX5_dropMinutes_87 : decode cX5_dropMinutes 87 = .ok (.return_, 1) := by decide +kernel
set_option maxHeartbeats 4000000 in
set_option maxRecDepth 100000 in
theorem w_X5_dropMinutes_l9 {b0 : Nat} {w : WT} {l : Launch} {p : Program} {e : Env} {s : State} {m : MethodId} {args : Array Value} {below : List Frame} {meth : Method} {c : Code} (C : KC w p s m args meth c cX5_dropMinutes 4 RX5 none) (hb0 : isSt b0) {v1 : Int32} {v2 : Int32} {L : Lng} {Q : State → Prop} (z : Int32 × Mem) (o : (Int32 × Mem) ⊕ (Mem)) (hf : f_X5_dropMinutes_l9 b0 v1 v2 z = some o) (hA : ∀ z, o = .inl z → AtL w p l e ({ frames := 1, cells := 0, slots := 0, locals := 21 } : Room) s m args below meth c Q 4 9 z.2 L [(0, .ref (wAd w b0)), (1, .int v1), (2, .int v2), (3, .int z.1)] []) (hE : ∀ y, o = .inr y → AtL w p l e ({ frames := 1, cells := 0, slots := 0, locals := 21 } : Room) s m args below meth c Q 4 48 y L [(0, .ref (wAd w b0)), (1, .int v1), (2, .int v2)] []) : AtL w p l e ({ frames := 1, cells := 0, slots := 0, locals := 21 } : Room) s m args below meth c Q 4 9 z.2 L [(0, .ref (wAd w b0)), (1, .int v1), (2, .int v2), (3, .int z.1)] [] := by
  intro H locs ls hP hS hl
  unfold f_X5_dropMinutes_l9 at hf
  refine lv_iload_n C.1 C.2.1 dX5_dropMinutes_9 rfl (lv_at hl 3 rfl) ?_
  refine lv_iload_n C.1 C.2.1 dX5_dropMinutes_10 rfl (lv_at hl 2 rfl) ?_
  refine lv_icmp_ge (tgt := 48) C.1 C.2.1 dX5_dropMinutes_11 (by decide) (fun c1 => ?_) (fun c1 => ?_)
  · have hf := (if_pos c1).symm.trans hf
    cases hf
    exact hE _ rfl _ _ _ hP hS (lv_sub hl [0, 1, 2] rfl)
  · have hf := (if_neg c1).symm.trans hf
    refine lv_aload_n C.1 C.2.1 dX5_dropMinutes_14 rfl (lv_at hl 0 rfl) ?_
    refine k_get (v := .ref (wAd w (b0 + 1))) C hP (lt_State hb0) (ob_State hb0 w L _) rfl iX5 0 (by decide) q43 rfl dX5_dropMinutes_15 ?_
    refine lv_iload_n C.1 C.2.1 dX5_dropMinutes_18 rfl (lv_at hl 3 rfl) ?_
    refine lv_aload_n C.1 C.2.1 dX5_dropMinutes_19 rfl (lv_at hl 0 rfl) ?_
    refine k_get (v := .ref (wAd w (b0 + 1))) C hP (lt_State hb0) (ob_State hb0 w L _) rfl iX5 0 (by decide) q43 rfl dX5_dropMinutes_20 ?_
    refine lv_iload_n C.1 C.2.1 dX5_dropMinutes_23 rfl (lv_at hl 3 rfl) ?_
    refine lv_iload_n C.1 C.2.1 dX5_dropMinutes_24 rfl (lv_at hl 1 rfl) ?_
    refine lv_iadd C.1 C.2.1 dX5_dropMinutes_25 ?_
    obtain ⟨x2, hx2, hf⟩ := ob hf
    refine k_iald C hP (la_State_levels hb0) (ar_State_levels hb0 w L _) hx2 dX5_dropMinutes_26 ?_
    obtain ⟨M3, hM3, hf⟩ := ob hf
    refine k_iast C hP hS (la_State_levels hb0) (ar_State_levels hb0 w L) hM3 dX5_dropMinutes_27 (fun H locs hP hS => ?_)
    refine lv_aload_n C.1 C.2.1 dX5_dropMinutes_28 rfl (lv_at hl 0 rfl) ?_
    refine k_get (v := .ref (wAd w (b0 + 2))) C hP (lt_State hb0) (ob_State hb0 w L _) rfl iX5 1 (by decide) q46 rfl dX5_dropMinutes_29 ?_
    refine lv_iload_n C.1 C.2.1 dX5_dropMinutes_32 rfl (lv_at hl 3 rfl) ?_
    refine lv_aload_n C.1 C.2.1 dX5_dropMinutes_33 rfl (lv_at hl 0 rfl) ?_
    refine k_get (v := .ref (wAd w (b0 + 2))) C hP (lt_State hb0) (ob_State hb0 w L _) rfl iX5 1 (by decide) q46 rfl dX5_dropMinutes_34 ?_
    refine lv_iload_n C.1 C.2.1 dX5_dropMinutes_37 rfl (lv_at hl 3 rfl) ?_
    refine lv_iload_n C.1 C.2.1 dX5_dropMinutes_38 rfl (lv_at hl 1 rfl) ?_
    refine lv_iadd C.1 C.2.1 dX5_dropMinutes_39 ?_
    obtain ⟨x4, hx4, hf⟩ := ob hf
    refine k_iald C hP (la_State_winds hb0) (ar_State_winds hb0 w L _) hx4 dX5_dropMinutes_40 ?_
    obtain ⟨M5, hM5, hf⟩ := ob hf
    refine k_iast C hP hS (la_State_winds hb0) (ar_State_winds hb0 w L) hM5 dX5_dropMinutes_41 (fun H locs hP hS => ?_)
    refine lv_iinc (v := (z.1 + 1)) (lv' := [(3, .int (z.1 + 1)), (0, .ref (wAd w b0)), (1, .int v1), (2, .int v2)]) C.1 C.2.1 dX5_dropMinutes_42 hl (k := 3) rfl rfl (by decide) rfl (fun ls hl => ?_)
    refine lv_goto (tgt := 9) C.1 C.2.1 dX5_dropMinutes_45 (by decide) ?_
    cases hf
    exact hA _ rfl _ _ _ hP hS (lv_sub hl [1, 2, 3, 0] rfl)
set_option maxHeartbeats 4000000 in
set_option maxRecDepth 100000 in
theorem w_X5_dropMinutes_l55 {b0 : Nat} {w : WT} {l : Launch} {p : Program} {e : Env} {s : State} {m : MethodId} {args : Array Value} {below : List Frame} {meth : Method} {c : Code} (C : KC w p s m args meth c cX5_dropMinutes 4 RX5 none) (hb0 : isSt b0) {v1 : Int32} {L : Lng} {Q : State → Prop} (z : Int32 × Mem) (o : (Int32 × Mem) ⊕ (Mem)) (hf : f_X5_dropMinutes_l55 b0 v1 z = some o) (hA : ∀ z, o = .inl z → AtL w p l e ({ frames := 1, cells := 0, slots := 0, locals := 21 } : Room) s m args below meth c Q 4 55 z.2 L [(0, .ref (wAd w b0)), (1, .int v1), (3, .int z.1)] []) (hE : ∀ y, o = .inr y → AtL w p l e ({ frames := 1, cells := 0, slots := 0, locals := 21 } : Room) s m args below meth c Q 4 87 y L [] []) : AtL w p l e ({ frames := 1, cells := 0, slots := 0, locals := 21 } : Room) s m args below meth c Q 4 55 z.2 L [(0, .ref (wAd w b0)), (1, .int v1), (3, .int z.1)] [] := by
  intro H locs ls hP hS hl
  unfold f_X5_dropMinutes_l55 at hf
  refine lv_iload_n C.1 C.2.1 dX5_dropMinutes_55 rfl (lv_at hl 2 rfl) ?_
  refine lv_aload_n C.1 C.2.1 dX5_dropMinutes_56 rfl (lv_at hl 0 rfl) ?_
  refine k_get (v := .int (z.2 b0 5)) C hP (lt_State hb0) (ob_State hb0 w L _) rfl iX5 5 (by decide) q58 rfl dX5_dropMinutes_57 ?_
  refine lv_icmp_ge (tgt := 87) C.1 C.2.1 dX5_dropMinutes_60 (by decide) (fun c8 => ?_) (fun c8 => ?_)
  · have hf := (if_pos c8).symm.trans hf
    cases hf
    exact hE _ rfl _ _ _ hP hS (lv_sub hl [] rfl)
  · have hf := (if_neg c8).symm.trans hf
    refine lv_aload_n C.1 C.2.1 dX5_dropMinutes_63 rfl (lv_at hl 0 rfl) ?_
    refine k_get (v := .ref (wAd w (b0 + 4))) C hP (lt_State hb0) (ob_State hb0 w L _) rfl iX5 3 (by decide) q51 rfl dX5_dropMinutes_64 ?_
    refine lv_iload_n C.1 C.2.1 dX5_dropMinutes_67 rfl (lv_at hl 2 rfl) ?_
    refine lv_iconst (v := 0) C.1 C.2.1 dX5_dropMinutes_68 (by decide) ?_
    refine lv_aload_n C.1 C.2.1 dX5_dropMinutes_69 rfl (lv_at hl 0 rfl) ?_
    refine k_get (v := .ref (wAd w (b0 + 4))) C hP (lt_State hb0) (ob_State hb0 w L _) rfl iX5 3 (by decide) q51 rfl dX5_dropMinutes_70 ?_
    refine lv_iload_n C.1 C.2.1 dX5_dropMinutes_73 rfl (lv_at hl 2 rfl) ?_
    obtain ⟨x9, hx9, hf⟩ := ob hf
    refine k_iald C hP (la_State_complaintMinutes hb0) (ar_State_complaintMinutes hb0 w L _) hx9 dX5_dropMinutes_74 ?_
    refine lv_iload_n C.1 C.2.1 dX5_dropMinutes_75 rfl (lv_at hl 1 rfl) ?_
    refine lv_isub C.1 C.2.1 dX5_dropMinutes_76 ?_
    refine k_max C hl.1 q709 q621 q17 q622 (Nat.le_of_ble_eq_true rfl) (Nat.le_of_ble_eq_true rfl) (Nat.zero_le _) (Nat.zero_le _) dX5_dropMinutes_77 ?_
    obtain ⟨M10, hM10, hf⟩ := ob hf
    refine k_iast C hP hS (la_State_complaintMinutes hb0) (ar_State_complaintMinutes hb0 w L) hM10 dX5_dropMinutes_80 (fun H locs hP hS => ?_)
    refine lv_iinc (v := (z.1 + 1)) (lv' := [(3, .int (z.1 + 1)), (0, .ref (wAd w b0)), (1, .int v1)]) C.1 C.2.1 dX5_dropMinutes_81 hl (k := 2) rfl rfl (by decide) rfl (fun ls hl => ?_)
    refine lv_goto (tgt := 55) C.1 C.2.1 dX5_dropMinutes_84 (by decide) ?_
    cases hf
    exact hA _ rfl _ _ _ hP hS (lv_sub hl [1, 2, 0] rfl)
set_option maxHeartbeats 4000000 in
set_option maxRecDepth 100000 in
theorem c_X5_dropMinutes (w : WT) (l : Launch) (hw : WOK w) {b0 : Nat} (hb0 : isSt b0) {a1 : Int32} {M : Mem} {L : Lng} {out : Mem} (hf : f_X5_dropMinutes b0 a1 M = some out) : Met l yX5_dropMinutes (Cond.code yX5_dropMinutes cX5_dropMinutes 4 none :: BG) ({ frames := 1, cells := 0, slots := 0, locals := 21 } : Room) (PRE w [.ref (wAd w b0), .int a1] M L) (QV w out L) 0 0 (wA w) := by
  refine kEnt hw (by decide +kernel) rfl (Nat.le_of_ble_eq_true rfl) ?_
  intro p e s m args below meth c C ls hl hP
  have hS : va_S (wA w) s.heap s.heap [] := va_S.rf
  have hl : lv_has ls 4 [(0, .ref (wAd w b0)), (1, .int a1)] := hl
  unfold f_X5_dropMinutes at hf
  refine lv_aload_n C.1 C.2.1 dX5_dropMinutes_0 rfl (lv_at hl 0 rfl) ?_
  refine k_get (v := .int (M b0 4)) C hP (lt_State hb0) (ob_State hb0 w L _) rfl iX5 4 (by decide) q55 rfl dX5_dropMinutes_1 ?_
  refine lv_iload_n C.1 C.2.1 dX5_dropMinutes_4 rfl (lv_at hl 1 rfl) ?_
  refine lv_isub C.1 C.2.1 dX5_dropMinutes_5 ?_
  refine lv_istore_n (lv' := [(2, .int ((M b0 4) - a1)), (0, .ref (wAd w b0)), (1, .int a1)]) C.1 C.2.1 dX5_dropMinutes_6 rfl hl (by decide) rfl (fun ls hl => ?_)
  refine lv_iconst (v := 0) C.1 C.2.1 dX5_dropMinutes_7 (by decide) ?_
  refine lv_istore_n (lv' := [(3, .int 0), (2, .int ((M b0 4) - a1)), (0, .ref (wAd w b0)), (1, .int a1)]) C.1 C.2.1 dX5_dropMinutes_8 rfl hl (by decide) rfl (fun ls hl => ?_)
  obtain ⟨o6, ho6, hf⟩ := ob hf
  refine loop_at (w_X5_dropMinutes_l9 C hb0) FU _ o6 ho6 ?_ _ _ _ hP hS (lv_sub hl [2, 3, 1, 0] rfl)
  intro H locs ls hP hS hl
  refine lv_aload_n C.1 C.2.1 dX5_dropMinutes_48 rfl (lv_at hl 0 rfl) ?_
  refine lv_iload_n C.1 C.2.1 dX5_dropMinutes_49 rfl (lv_at hl 2 rfl) ?_
  obtain ⟨M7, hM7, hf⟩ := ob hf
  refine k_puti C hP hS (lt_State hb0) (fun row => ob_State hb0 w L row) rfl iX5 tyX5 tyX5_ok nmX5 4 (by decide) q55 rfl rfl (Nat.le_of_ble_eq_true rfl) rfl hM7 dX5_dropMinutes_50 (fun H locs hP hS => ?_)
  refine lv_iconst (v := 0) C.1 C.2.1 dX5_dropMinutes_53 (by decide) ?_
  refine lv_istore_n (lv' := [(3, .int 0), (0, .ref (wAd w b0)), (1, .int a1), (2, .int ((M b0 4) - a1))]) C.1 C.2.1 dX5_dropMinutes_54 rfl hl (by decide) rfl (fun ls hl => ?_)
  obtain ⟨o11, ho11, hf⟩ := ob hf
  refine loop_at (w_X5_dropMinutes_l55 C hb0) FU _ o11 ho11 ?_ _ _ _ hP hS (lv_sub hl [1, 2, 0] rfl)
  intro H locs ls hP hS hl
  cases hf
  exact krv C hP hS dX5_dropMinutes_87
theorem dX5_addComplaint_0 : decode cX5_addComplaint 0 = .ok (.aload_n 0, 1) := by decide +kernel
theorem dX5_addComplaint_1 : decode cX5_addComplaint 1 = .ok (.getfield 36, 3) := by decide +kernel
theorem dX5_addComplaint_4 : decode cX5_addComplaint 4 = .ok (.bipush 20, 2) := by decide +kernel
theorem dX5_addComplaint_6 : decode cX5_addComplaint 6 = .ok (.if_icmp .ge 23, 3) := by decide +kernel
theorem dX5_addComplaint_9 : decode cX5_addComplaint 9 = .ok (.aload_n 0, 1) := by decide +kernel
theorem dX5_addComplaint_10 : decode cX5_addComplaint 10 = .ok (.getfield 29, 3) := by decide +kernel
theorem dX5_addComplaint_13 : decode cX5_addComplaint 13 = .ok (.aload_n 0, 1) := by decide +kernel
theorem dX5_addComplaint_14 : decode cX5_addComplaint 14 = .ok (.getfield 36, 3) := by decide +kernel
theorem dX5_addComplaint_17 : decode cX5_addComplaint 17 = .ok (.iload_n 1, 1) := by decide +kernel
theorem dX5_addComplaint_18 : decode cX5_addComplaint 18 = .ok (.iastore, 1) := by decide +kernel
theorem dX5_addComplaint_19 : decode cX5_addComplaint 19 = .ok (.aload_n 0, 1) := by decide +kernel
theorem dX5_addComplaint_20 : decode cX5_addComplaint 20 = .ok (.dup, 1) := by decide +kernel
theorem dX5_addComplaint_21 : decode cX5_addComplaint 21 = .ok (.getfield 36, 3) := by decide +kernel
theorem dX5_addComplaint_24 : decode cX5_addComplaint 24 = .ok (.iconst 1, 1) := by decide +kernel
theorem dX5_addComplaint_25 : decode cX5_addComplaint 25 = .ok (.iadd, 1) := by decide +kernel
theorem dX5_addComplaint_26 : decode cX5_addComplaint 26 = .ok (.putfield 36, 3) := by decide +kernel
theorem dX5_addComplaint_29 : decode cX5_addComplaint 29 = .ok (.return_, 1) := by decide +kernel
set_option maxHeartbeats 4000000 in
set_option maxRecDepth 100000 in
theorem c_X5_addComplaint (w : WT) (l : Launch) (hw : WOK w) {b0 : Nat} (hb0 : isSt b0) {a1 : Int32} {M : Mem} {L : Lng} {out : Mem} (hf : f_X5_addComplaint b0 a1 M = some out) : Met l yX5_addComplaint (Cond.code yX5_addComplaint cX5_addComplaint 2 none :: BG) ({ frames := 0, cells := 0, slots := 0, locals := 0 } : Room) (PRE w [.ref (wAd w b0), .int a1] M L) (QV w out L) 0 0 (wA w) := by
  refine kEnt hw (by decide +kernel) rfl (Nat.le_of_ble_eq_true rfl) ?_
  intro p e s m args below meth c C ls hl hP
  have hS : va_S (wA w) s.heap s.heap [] := va_S.rf
  have hl : lv_has ls 2 [(0, .ref (wAd w b0)), (1, .int a1)] := hl
  unfold f_X5_addComplaint at hf
  refine lv_aload_n C.1 C.2.1 dX5_addComplaint_0 rfl (lv_at hl 0 rfl) ?_
  refine k_get (v := .int (M b0 5)) C hP (lt_State hb0) (ob_State hb0 w L _) rfl iX5 5 (by decide) q58 rfl dX5_addComplaint_1 ?_
  refine lv_bipush (v := 20) C.1 C.2.1 dX5_addComplaint_4 (by decide) ?_
  refine lv_icmp_ge (tgt := 29) C.1 C.2.1 dX5_addComplaint_6 (by decide) (fun c1 => ?_) (fun c1 => ?_)
  · have hf := (if_pos c1).symm.trans hf
    cases hf
    exact krv C hP hS dX5_addComplaint_29
  · have hf := (if_neg c1).symm.trans hf
    refine lv_aload_n C.1 C.2.1 dX5_addComplaint_9 rfl (lv_at hl 0 rfl) ?_
    refine k_get (v := .ref (wAd w (b0 + 4))) C hP (lt_State hb0) (ob_State hb0 w L _) rfl iX5 3 (by decide) q51 rfl dX5_addComplaint_10 ?_
    refine lv_aload_n C.1 C.2.1 dX5_addComplaint_13 rfl (lv_at hl 0 rfl) ?_
    refine k_get (v := .int (M b0 5)) C hP (lt_State hb0) (ob_State hb0 w L _) rfl iX5 5 (by decide) q58 rfl dX5_addComplaint_14 ?_
    refine lv_iload_n C.1 C.2.1 dX5_addComplaint_17 rfl (lv_at hl 1 rfl) ?_
    obtain ⟨M2, hM2, hf⟩ := ob hf
    refine k_iast C hP hS (la_State_complaintMinutes hb0) (ar_State_complaintMinutes hb0 w L) hM2 dX5_addComplaint_18 (fun H locs hP hS => ?_)
    refine lv_aload_n C.1 C.2.1 dX5_addComplaint_19 rfl (lv_at hl 0 rfl) ?_
    refine lv_dup C.1 C.2.1 dX5_addComplaint_20 rfl ?_
    refine k_get (v := .int (M2 b0 5)) C hP (lt_State hb0) (ob_State hb0 w L _) rfl iX5 5 (by decide) q58 rfl dX5_addComplaint_21 ?_
    refine lv_iconst (v := 1) C.1 C.2.1 dX5_addComplaint_24 (by decide) ?_
    refine lv_iadd C.1 C.2.1 dX5_addComplaint_25 ?_
    obtain ⟨M3, hM3, hf⟩ := ob hf
    refine k_puti C hP hS (lt_State hb0) (fun row => ob_State hb0 w L row) rfl iX5 tyX5 tyX5_ok nmX5 5 (by decide) q58 rfl rfl (Nat.le_of_ble_eq_true rfl) rfl hM3 dX5_addComplaint_26 (fun H locs hP hS => ?_)
    cases hf
    exact krv C hP hS dX5_addComplaint_29
theorem dX5_dropComplaint_0 : decode cX5_dropComplaint 0 = .ok (.iload_n 1, 1) := by decide +kernel
theorem dX5_dropComplaint_1 : decode cX5_dropComplaint 1 = .ok (.istore_n 2, 1) := by decide +kernel
theorem dX5_dropComplaint_2 : decode cX5_dropComplaint 2 = .ok (.iload_n 2, 1) := by decide +kernel
theorem dX5_dropComplaint_3 : decode cX5_dropComplaint 3 = .ok (.iconst 1, 1) := by decide +kernel
theorem dX5_dropComplaint_4 : decode cX5_dropComplaint 4 = .ok (.iadd, 1) := by decide +kernel
theorem dX5_dropComplaint_5 : decode cX5_dropComplaint 5 = .ok (.aload_n 0, 1) := by decide +kernel
theorem dX5_dropComplaint_6 : decode cX5_dropComplaint 6 = .ok (.getfield 36, 3) := by decide +kernel
theorem dX5_dropComplaint_9 : decode cX5_dropComplaint 9 = .ok (.if_icmp .ge 23, 3) := by decide +kernel
theorem dX5_dropComplaint_12 : decode cX5_dropComplaint 12 = .ok (.aload_n 0, 1) := by decide +kernel
theorem dX5_dropComplaint_13 : decode cX5_dropComplaint 13 = .ok (.getfield 29, 3) := by decide +kernel
theorem dX5_dropComplaint_16 : decode cX5_dropComplaint 16 = .ok (.iload_n 2, 1) := by decide +kernel
theorem dX5_dropComplaint_17 : decode cX5_dropComplaint 17 = .ok (.aload_n 0, 1) := by decide +kernel
theorem dX5_dropComplaint_18 : decode cX5_dropComplaint 18 = .ok (.getfield 29, 3) := by decide +kernel
theorem dX5_dropComplaint_21 : decode cX5_dropComplaint 21 = .ok (.iload_n 2, 1) := by decide +kernel
theorem dX5_dropComplaint_22 : decode cX5_dropComplaint 22 = .ok (.iconst 1, 1) := by decide +kernel
theorem dX5_dropComplaint_23 : decode cX5_dropComplaint 23 = .ok (.iadd, 1) := by decide +kernel
theorem dX5_dropComplaint_24 : decode cX5_dropComplaint 24 = .ok (.iaload, 1) := by decide +kernel
theorem dX5_dropComplaint_25 : decode cX5_dropComplaint 25 = .ok (.iastore, 1) := by decide +kernel
theorem dX5_dropComplaint_26 : decode cX5_dropComplaint 26 = .ok (.iinc 2 1, 3) := by decide +kernel
theorem dX5_dropComplaint_29 : decode cX5_dropComplaint 29 = .ok (.goto (-27), 3) := by decide +kernel
theorem dX5_dropComplaint_32 : decode cX5_dropComplaint 32 = .ok (.aload_n 0, 1) := by decide +kernel
theorem dX5_dropComplaint_33 : decode cX5_dropComplaint 33 = .ok (.dup, 1) := by decide +kernel
theorem dX5_dropComplaint_34 : decode cX5_dropComplaint 34 = .ok (.getfield 36, 3) := by decide +kernel
theorem dX5_dropComplaint_37 : decode cX5_dropComplaint 37 = .ok (.iconst 1, 1) := by decide +kernel
theorem dX5_dropComplaint_38 : decode cX5_dropComplaint 38 = .ok (.isub, 1) := by decide +kernel
theorem dX5_dropComplaint_39 : decode cX5_dropComplaint 39 = .ok (.putfield 36, 3) := by decide +kernel
theorem dX5_dropComplaint_42 : decode cX5_dropComplaint 42 = .ok (.return_, 1) := by decide +kernel
set_option maxHeartbeats 4000000 in
set_option maxRecDepth 100000 in
theorem w_X5_dropComplaint_l2 {b0 : Nat} {w : WT} {l : Launch} {p : Program} {e : Env} {s : State} {m : MethodId} {args : Array Value} {below : List Frame} {meth : Method} {c : Code} (C : KC w p s m args meth c cX5_dropComplaint 3 RX5 none) (hb0 : isSt b0) {L : Lng} {Q : State → Prop} (z : Int32 × Mem) (o : (Int32 × Mem) ⊕ (Mem)) (hf : f_X5_dropComplaint_l2 b0 z = some o) (hA : ∀ z, o = .inl z → AtL w p l e ({ frames := 0, cells := 0, slots := 0, locals := 0 } : Room) s m args below meth c Q 3 2 z.2 L [(0, .ref (wAd w b0)), (2, .int z.1)] []) (hE : ∀ y, o = .inr y → AtL w p l e ({ frames := 0, cells := 0, slots := 0, locals := 0 } : Room) s m args below meth c Q 3 32 y L [(0, .ref (wAd w b0))] []) : AtL w p l e ({ frames := 0, cells := 0, slots := 0, locals := 0 } : Room) s m args below meth c Q 3 2 z.2 L [(0, .ref (wAd w b0)), (2, .int z.1)] [] := by
  intro H locs ls hP hS hl
  unfold f_X5_dropComplaint_l2 at hf
  refine lv_iload_n C.1 C.2.1 dX5_dropComplaint_2 rfl (lv_at hl 1 rfl) ?_
  refine lv_iconst (v := 1) C.1 C.2.1 dX5_dropComplaint_3 (by decide) ?_
  refine lv_iadd C.1 C.2.1 dX5_dropComplaint_4 ?_
  refine lv_aload_n C.1 C.2.1 dX5_dropComplaint_5 rfl (lv_at hl 0 rfl) ?_
  refine k_get (v := .int (z.2 b0 5)) C hP (lt_State hb0) (ob_State hb0 w L _) rfl iX5 5 (by decide) q58 rfl dX5_dropComplaint_6 ?_
  refine lv_icmp_ge (tgt := 32) C.1 C.2.1 dX5_dropComplaint_9 (by decide) (fun c1 => ?_) (fun c1 => ?_)
  · have hf := (if_pos c1).symm.trans hf
    cases hf
    exact hE _ rfl _ _ _ hP hS (lv_sub hl [0] rfl)
  · have hf := (if_neg c1).symm.trans hf
    refine lv_aload_n C.1 C.2.1 dX5_dropComplaint_12 rfl (lv_at hl 0 rfl) ?_
    refine k_get (v := .ref (wAd w (b0 + 4))) C hP (lt_State hb0) (ob_State hb0 w L _) rfl iX5 3 (by decide) q51 rfl dX5_dropComplaint_13 ?_
    refine lv_iload_n C.1 C.2.1 dX5_dropComplaint_16 rfl (lv_at hl 1 rfl) ?_
    refine lv_aload_n C.1 C.2.1 dX5_dropComplaint_17 rfl (lv_at hl 0 rfl) ?_
    refine k_get (v := .ref (wAd w (b0 + 4))) C hP (lt_State hb0) (ob_State hb0 w L _) rfl iX5 3 (by decide) q51 rfl dX5_dropComplaint_18 ?_
    refine lv_iload_n C.1 C.2.1 dX5_dropComplaint_21 rfl (lv_at hl 1 rfl) ?_
    refine lv_iconst (v := 1) C.1 C.2.1 dX5_dropComplaint_22 (by decide) ?_
    refine lv_iadd C.1 C.2.1 dX5_dropComplaint_23 ?_
    obtain ⟨x2, hx2, hf⟩ := ob hf
    refine k_iald C hP (la_State_complaintMinutes hb0) (ar_State_complaintMinutes hb0 w L _) hx2 dX5_dropComplaint_24 ?_
    obtain ⟨M3, hM3, hf⟩ := ob hf
    refine k_iast C hP hS (la_State_complaintMinutes hb0) (ar_State_complaintMinutes hb0 w L) hM3 dX5_dropComplaint_25 (fun H locs hP hS => ?_)
    refine lv_iinc (v := (z.1 + 1)) (lv' := [(2, .int (z.1 + 1)), (0, .ref (wAd w b0))]) C.1 C.2.1 dX5_dropComplaint_26 hl (k := 1) rfl rfl (by decide) rfl (fun ls hl => ?_)
    refine lv_goto (tgt := 2) C.1 C.2.1 dX5_dropComplaint_29 (by decide) ?_
    cases hf
    exact hA _ rfl _ _ _ hP hS (lv_sub hl [1, 0] rfl)
set_option maxHeartbeats 4000000 in
set_option maxRecDepth 100000 in
theorem c_X5_dropComplaint (w : WT) (l : Launch) (hw : WOK w) {b0 : Nat} (hb0 : isSt b0) {a1 : Int32} {M : Mem} {L : Lng} {out : Mem} (hf : f_X5_dropComplaint b0 a1 M = some out) : Met l yX5_dropComplaint (Cond.code yX5_dropComplaint cX5_dropComplaint 3 none :: BG) ({ frames := 0, cells := 0, slots := 0, locals := 0 } : Room) (PRE w [.ref (wAd w b0), .int a1] M L) (QV w out L) 0 0 (wA w) := by
  refine kEnt hw (by decide +kernel) rfl (Nat.le_of_ble_eq_true rfl) ?_
  intro p e s m args below meth c C ls hl hP
  have hS : va_S (wA w) s.heap s.heap [] := va_S.rf
  have hl : lv_has ls 3 [(0, .ref (wAd w b0)), (1, .int a1)] := hl
  unfold f_X5_dropComplaint at hf
  refine lv_iload_n C.1 C.2.1 dX5_dropComplaint_0 rfl (lv_at hl 1 rfl) ?_
  refine lv_istore_n (lv' := [(2, .int a1), (0, .ref (wAd w b0)), (1, .int a1)]) C.1 C.2.1 dX5_dropComplaint_1 rfl hl (by decide) rfl (fun ls hl => ?_)
  obtain ⟨o4, ho4, hf⟩ := ob hf
  refine loop_at (w_X5_dropComplaint_l2 C hb0) FU _ o4 ho4 ?_ _ _ _ hP hS (lv_sub hl [1, 0] rfl)
  intro H locs ls hP hS hl
  refine lv_aload_n C.1 C.2.1 dX5_dropComplaint_32 rfl (lv_at hl 0 rfl) ?_
  refine lv_dup C.1 C.2.1 dX5_dropComplaint_33 rfl ?_
  refine k_get (v := .int (o4 b0 5)) C hP (lt_State hb0) (ob_State hb0 w L _) rfl iX5 5 (by decide) q58 rfl dX5_dropComplaint_34 ?_
  refine lv_iconst (v := 1) C.1 C.2.1 dX5_dropComplaint_37 (by decide) ?_
  refine lv_isub C.1 C.2.1 dX5_dropComplaint_38 ?_
  obtain ⟨M5, hM5, hf⟩ := ob hf
  refine k_puti C hP hS (lt_State hb0) (fun row => ob_State hb0 w L row) rfl iX5 tyX5 tyX5_ok nmX5 5 (by decide) q58 rfl rfl (Nat.le_of_ble_eq_true rfl) rfl hM5 dX5_dropComplaint_39 (fun H locs hP hS => ?_)
  cases hf
  exact krv C hP hS dX5_dropComplaint_42
theorem dX6_addCode_0 : decode cX6_addCode 0 = .ok (.aload_n 0, 1) := by decide +kernel
theorem dX6_addCode_1 : decode cX6_addCode 1 = .ok (.getfield 27, 3) := by decide +kernel
theorem dX6_addCode_4 : decode cX6_addCode 4 = .ok (.bipush 60, 2) := by decide +kernel
theorem dX6_addCode_6 : decode cX6_addCode 6 = .ok (.if_icmp .ge 23, 3) := by decide +kernel
theorem dX6_addCode_9 : decode cX6_addCode 9 = .ok (.aload_n 0, 1) := by decide +kernel
theorem dX6_addCode_10 : decode cX6_addCode 10 = .ok (.getfield 9, 3) := by decide +kernel
theorem dX6_addCode_13 : decode cX6_addCode 13 = .ok (.aload_n 0, 1) := by decide +kernel
theorem dX6_addCode_14 : decode cX6_addCode 14 = .ok (.getfield 27, 3) := by decide +kernel
theorem dX6_addCode_17 : decode cX6_addCode 17 = .ok (.iload_n 1, 1) := by decide +kernel
theorem dX6_addCode_18 : decode cX6_addCode 18 = .ok (.iastore, 1) := by decide +kernel
theorem dX6_addCode_19 : decode cX6_addCode 19 = .ok (.aload_n 0, 1) := by decide +kernel
theorem dX6_addCode_20 : decode cX6_addCode 20 = .ok (.dup, 1) := by decide +kernel
theorem dX6_addCode_21 : decode cX6_addCode 21 = .ok (.getfield 27, 3) := by decide +kernel
theorem dX6_addCode_24 : decode cX6_addCode 24 = .ok (.iconst 1, 1) := by decide +kernel
theorem dX6_addCode_25 : decode cX6_addCode 25 = .ok (.iadd, 1) := by decide +kernel
theorem dX6_addCode_26 : decode cX6_addCode 26 = .ok (.putfield 27, 3) := by decide +kernel
theorem dX6_addCode_29 : decode cX6_addCode 29 = .ok (.return_, 1) := by decide +kernel
set_option maxHeartbeats 4000000 in
set_option maxRecDepth 100000 in
theorem c_X6_addCode (w : WT) (l : Launch) (hw : WOK w) {a1 : Int32} {M : Mem} {L : Lng} {out : Mem} (hf : f_X6_addCode a1 M = some out) : Met l yX6_addCode (Cond.code yX6_addCode cX6_addCode 2 none :: BG) ({ frames := 0, cells := 0, slots := 0, locals := 0 } : Room) (PRE w [.ref (wAd w 48), .int a1] M L) (QV w out L) 0 0 (wA w) := by
  refine kEnt hw (by decide +kernel) rfl (Nat.le_of_ble_eq_true rfl) ?_
  intro p e s m args below meth c C ls hl hP
  have hS : va_S (wA w) s.heap s.heap [] := va_S.rf
  have hl : lv_has ls 2 [(0, .ref (wAd w 48)), (1, .int a1)] := hl
  unfold f_X6_addCode at hf
  refine lv_aload_n C.1 C.2.1 dX6_addCode_0 rfl (lv_at hl 0 rfl) ?_
  refine k_get (v := .int (M 48 1)) C hP (lt_Text h0_Text) (ob_Text h0_Text w L _) rfl iX6 1 (by decide) q102 rfl dX6_addCode_1 ?_
  refine lv_bipush (v := 60) C.1 C.2.1 dX6_addCode_4 (by decide) ?_
  refine lv_icmp_ge (tgt := 29) C.1 C.2.1 dX6_addCode_6 (by decide) (fun c1 => ?_) (fun c1 => ?_)
  · have hf := (if_pos c1).symm.trans hf
    cases hf
    exact krv C hP hS dX6_addCode_29
  · have hf := (if_neg c1).symm.trans hf
    refine lv_aload_n C.1 C.2.1 dX6_addCode_9 rfl (lv_at hl 0 rfl) ?_
    refine k_get (v := .ref (wAd w 49)) C hP (lt_Text h0_Text) (ob_Text h0_Text w L _) rfl iX6 0 (by decide) q100 rfl dX6_addCode_10 ?_
    refine lv_aload_n C.1 C.2.1 dX6_addCode_13 rfl (lv_at hl 0 rfl) ?_
    refine k_get (v := .int (M 48 1)) C hP (lt_Text h0_Text) (ob_Text h0_Text w L _) rfl iX6 1 (by decide) q102 rfl dX6_addCode_14 ?_
    refine lv_iload_n C.1 C.2.1 dX6_addCode_17 rfl (lv_at hl 1 rfl) ?_
    obtain ⟨M2, hM2, hf⟩ := ob hf
    refine k_iast C hP hS (la_Text_codes h0_Text) (ar_Text_codes h0_Text w L) hM2 dX6_addCode_18 (fun H locs hP hS => ?_)
    refine lv_aload_n C.1 C.2.1 dX6_addCode_19 rfl (lv_at hl 0 rfl) ?_
    refine lv_dup C.1 C.2.1 dX6_addCode_20 rfl ?_
    refine k_get (v := .int (M2 48 1)) C hP (lt_Text h0_Text) (ob_Text h0_Text w L _) rfl iX6 1 (by decide) q102 rfl dX6_addCode_21 ?_
    refine lv_iconst (v := 1) C.1 C.2.1 dX6_addCode_24 (by decide) ?_
    refine lv_iadd C.1 C.2.1 dX6_addCode_25 ?_
    obtain ⟨M3, hM3, hf⟩ := ob hf
    refine k_puti C hP hS (lt_Text h0_Text) (fun row => ob_Text h0_Text w L row) rfl iX6 tyX6 tyX6_ok nmX6 1 (by decide) q102 rfl rfl (Nat.le_of_ble_eq_true rfl) rfl hM3 dX6_addCode_26 (fun H locs hP hS => ?_)
    cases hf
    exact krv C hP hS dX6_addCode_29
theorem dX6_beginNumber_0 : decode cX6_beginNumber 0 = .ok (.aload_n 0, 1) := by decide +kernel
theorem dX6_beginNumber_1 : decode cX6_beginNumber 1 = .ok (.iload_n 1, 1) := by decide +kernel
theorem dX6_beginNumber_2 : decode cX6_beginNumber 2 = .ok (.putfield 55, 3) := by decide +kernel
theorem dX6_beginNumber_5 : decode cX6_beginNumber 5 = .ok (.aload_n 0, 1) := by decide +kernel
theorem dX6_beginNumber_6 : decode cX6_beginNumber 6 = .ok (.getfield 24, 3) := by decide +kernel
theorem dX6_beginNumber_9 : decode cX6_beginNumber 9 = .ok (.iload_n 1, 1) := by decide +kernel
theorem dX6_beginNumber_10 : decode cX6_beginNumber 10 = .ok (.iconst (-1), 1) := by decide +kernel
theorem dX6_beginNumber_11 : decode cX6_beginNumber 11 = .ok (.iastore, 1) := by decide +kernel
theorem dX6_beginNumber_12 : decode cX6_beginNumber 12 = .ok (.return_, 1) := by decide +kernel
set_option maxHeartbeats 4000000 in
set_option maxRecDepth 100000 in
theorem c_X6_beginNumber (w : WT) (l : Launch) (hw : WOK w) {a1 : Int32} {M : Mem} {L : Lng} {out : Mem} (hf : f_X6_beginNumber a1 M = some out) : Met l yX6_beginNumber (Cond.code yX6_beginNumber cX6_beginNumber 2 none :: BG) ({ frames := 0, cells := 0, slots := 0, locals := 0 } : Room) (PRE w [.ref (wAd w 48), .int a1] M L) (QV w out L) 0 0 (wA w) := by
  refine kEnt hw (by decide +kernel) rfl (Nat.le_of_ble_eq_true rfl) ?_
  intro p e s m args below meth c C ls hl hP
  have hS : va_S (wA w) s.heap s.heap [] := va_S.rf
  have hl : lv_has ls 2 [(0, .ref (wAd w 48)), (1, .int a1)] := hl
  unfold f_X6_beginNumber at hf
  refine lv_aload_n C.1 C.2.1 dX6_beginNumber_0 rfl (lv_at hl 0 rfl) ?_
  refine lv_iload_n C.1 C.2.1 dX6_beginNumber_1 rfl (lv_at hl 1 rfl) ?_
  obtain ⟨M1, hM1, hf⟩ := ob hf
  refine k_puti C hP hS (lt_Text h0_Text) (fun row => ob_Text h0_Text w L row) rfl iX6 tyX6 tyX6_ok nmX6 7 (by decide) q113 rfl rfl (Nat.le_of_ble_eq_true rfl) rfl hM1 dX6_beginNumber_2 (fun H locs hP hS => ?_)
  refine lv_aload_n C.1 C.2.1 dX6_beginNumber_5 rfl (lv_at hl 0 rfl) ?_
  refine k_get (v := .ref (wAd w 53)) C hP (lt_Text h0_Text) (ob_Text h0_Text w L _) rfl iX6 6 (by decide) q112 rfl dX6_beginNumber_6 ?_
  refine lv_iload_n C.1 C.2.1 dX6_beginNumber_9 rfl (lv_at hl 1 rfl) ?_
  refine lv_iconst (v := (-1)) C.1 C.2.1 dX6_beginNumber_10 (by decide) ?_
  obtain ⟨M2, hM2, hf⟩ := ob hf
  refine k_iast C hP hS (la_Text_numbers h0_Text) (ar_Text_numbers h0_Text w L) hM2 dX6_beginNumber_11 (fun H locs hP hS => ?_)
  cases hf
  exact krv C hP hS dX6_beginNumber_12
theorem dX6_beginPart_0 : decode cX6_beginPart 0 = .ok (.aload_n 0, 1) := by decide +kernel
theorem dX6_beginPart_1 : decode cX6_beginPart 1 = .ok (.getfield 24, 3) := by decide +kernel
theorem dX6_beginPart_4 : decode cX6_beginPart 4 = .ok (.iconst 1, 1) := by decide +kernel
theorem dX6_beginPart_5 : decode cX6_beginPart 5 = .ok (.iconst 0, 1) := by decide +kernel
theorem dX6_beginPart_6 : decode cX6_beginPart 6 = .ok (.iastore, 1) := by decide +kernel
theorem dX6_beginPart_7 : decode cX6_beginPart 7 = .ok (.aload_n 0, 1) := by decide +kernel
theorem dX6_beginPart_8 : decode cX6_beginPart 8 = .ok (.getfield 24, 3) := by decide +kernel
theorem dX6_beginPart_11 : decode cX6_beginPart 11 = .ok (.iconst 2, 1) := by decide +kernel
theorem dX6_beginPart_12 : decode cX6_beginPart 12 = .ok (.iconst 1, 1) := by decide +kernel
theorem dX6_beginPart_13 : decode cX6_beginPart 13 = .ok (.iastore, 1) := by decide +kernel
theorem dX6_beginPart_14 : decode cX6_beginPart 14 = .ok (.aload_n 0, 1) := by decide +kernel
theorem dX6_beginPart_15 : decode cX6_beginPart 15 = .ok (.iconst 0, 1) := by decide +kernel
theorem dX6_beginPart_16 : decode cX6_beginPart 16 = .ok (.invokevirtual 58, 3) := by decide +kernel
theorem dX6_beginPart_19 : decode cX6_beginPart 19 = .ok (.return_, 1) := by decide +kernel
set_option maxHeartbeats 4000000 in
set_option maxRecDepth 100000 in
theorem c_X6_beginPart (w : WT) (l : Launch) (hw : WOK w) {M : Mem} {L : Lng} {out : Mem} (hf : f_X6_beginPart M = some out) : Met l yX6_beginPart (Cond.code yX6_beginPart cX6_beginPart 1 none :: BG) ({ frames := 1, cells := 0, slots := 0, locals := 21 } : Room) (PRE w [.ref (wAd w 48)] M L) (QV w out L) 0 0 (wA w) := by
  refine kEnt hw (by decide +kernel) rfl (Nat.le_of_ble_eq_true rfl) ?_
  intro p e s m args below meth c C ls hl hP
  have hS : va_S (wA w) s.heap s.heap [] := va_S.rf
  have hl : lv_has ls 1 [(0, .ref (wAd w 48))] := hl
  unfold f_X6_beginPart at hf
  refine lv_aload_n C.1 C.2.1 dX6_beginPart_0 rfl (lv_at hl 0 rfl) ?_
  refine k_get (v := .ref (wAd w 53)) C hP (lt_Text h0_Text) (ob_Text h0_Text w L _) rfl iX6 6 (by decide) q112 rfl dX6_beginPart_1 ?_
  refine lv_iconst (v := 1) C.1 C.2.1 dX6_beginPart_4 (by decide) ?_
  refine lv_iconst (v := 0) C.1 C.2.1 dX6_beginPart_5 (by decide) ?_
  obtain ⟨M1, hM1, hf⟩ := ob hf
  refine k_iast C hP hS (la_Text_numbers h0_Text) (ar_Text_numbers h0_Text w L) hM1 dX6_beginPart_6 (fun H locs hP hS => ?_)
  refine lv_aload_n C.1 C.2.1 dX6_beginPart_7 rfl (lv_at hl 0 rfl) ?_
  refine k_get (v := .ref (wAd w 53)) C hP (lt_Text h0_Text) (ob_Text h0_Text w L _) rfl iX6 6 (by decide) q112 rfl dX6_beginPart_8 ?_
  refine lv_iconst (v := 2) C.1 C.2.1 dX6_beginPart_11 (by decide) ?_
  refine lv_iconst (v := 1) C.1 C.2.1 dX6_beginPart_12 (by decide) ?_
  obtain ⟨M2, hM2, hf⟩ := ob hf
  refine k_iast C hP hS (la_Text_numbers h0_Text) (ar_Text_numbers h0_Text w L) hM2 dX6_beginPart_13 (fun H locs hP hS => ?_)
  refine lv_aload_n C.1 C.2.1 dX6_beginPart_14 rfl (lv_at hl 0 rfl) ?_
  refine lv_iconst (v := 0) C.1 C.2.1 dX6_beginPart_15 (by decide) ?_
  obtain ⟨r3, hr3, hf⟩ := ob hf
  refine kcv (kV (As := [.int 0]) (rest := []) C hl.1 hP hS (c_X6_beginNumber w l C.2.2.2.2.2.2.2.2 (L := L) hr3) (gV q319 q321 qp1 q4 q322) hd_X6_beginNumber (lt_Text h0_Text) (ob_Text h0_Text w L _) rfl ⟨rfl, rfl⟩ ⟨Nat.le_of_ble_eq_true rfl, Nat.le_of_ble_eq_true rfl⟩ rfl rfl (Nat.le_of_ble_eq_true rfl) dX6_beginPart_16 ⟨Nat.zero_le _, Nat.zero_le _⟩) hS (fun H locs hP hS => ?_)
  cases hf
  exact krv C hP hS dX6_beginPart_19
theorem dX6_takesDigit_0 : decode cX6_takesDigit 0 = .ok (.aload_n 0, 1) := by decide +kernel
theorem dX6_takesDigit_1 : decode cX6_takesDigit 1 = .ok (.getfield 24, 3) := by decide +kernel
theorem dX6_takesDigit_4 : decode cX6_takesDigit 4 = .ok (.aload_n 0, 1) := by decide +kernel
theorem dX6_takesDigit_5 : decode cX6_takesDigit 5 = .ok (.getfield 55, 3) := by decide +kernel
theorem dX6_takesDigit_8 : decode cX6_takesDigit 8 = .ok (.iaload, 1) := by decide +kernel
theorem dX6_takesDigit_9 : decode cX6_takesDigit 9 = .ok (.istore_n 2, 1) := by decide +kernel
theorem dX6_takesDigit_10 : decode cX6_takesDigit 10 = .ok (.iload_n 2, 1) := by decide +kernel
theorem dX6_takesDigit_11 : decode cX6_takesDigit 11 = .ok (.iconst (-1), 1) := by decide +kernel
theorem dX6_takesDigit_12 : decode cX6_takesDigit 12 = .ok (.if_icmp .ne 29, 3) := by decide +kernel
theorem dX6_takesDigit_15 : decode cX6_takesDigit 15 = .ok (.iload_n 1, 1) := by decide +kernel
theorem dX6_takesDigit_16 : decode cX6_takesDigit 16 = .ok (.ifCond .gt 14, 3) := by decide +kernel
theorem dX6_takesDigit_19 : decode cX6_takesDigit 19 = .ok (.getstatic 62, 3) := by decide +kernel
theorem dX6_takesDigit_22 : decode cX6_takesDigit 22 = .ok (.aload_n 0, 1) := by decide +kernel
theorem dX6_takesDigit_23 : decode cX6_takesDigit 23 = .ok (.getfield 55, 3) := by decide +kernel
theorem dX6_takesDigit_26 : decode cX6_takesDigit 26 = .ok (.iaload, 1) := by decide +kernel
theorem dX6_takesDigit_27 : decode cX6_takesDigit 27 = .ok (.ifCond .ne 7, 3) := by decide +kernel
theorem dX6_takesDigit_30 : decode cX6_takesDigit 30 = .ok (.iconst 1, 1) := by decide +kernel
theorem dX6_takesDigit_31 : decode cX6_takesDigit 31 = .ok (.goto 4, 3) := by decide +kernel
theorem dX6_takesDigit_34 : decode cX6_takesDigit 34 = .ok (.iconst 0, 1) := by decide +kernel
theorem dX6_takesDigit_35 : decode cX6_takesDigit 35 = .ok (.istore_n 3, 1) := by decide +kernel
theorem dX6_takesDigit_36 : decode cX6_takesDigit 36 = .ok (.iconst 0, 1) := by decide +kernel
theorem dX6_takesDigit_37 : decode cX6_takesDigit 37 = .ok (.istore_n 2, 1) := by decide +kernel
theorem dX6_takesDigit_38 : decode cX6_takesDigit 38 = .ok (.goto 30, 3) := by decide +kernel
theorem dX6_takesDigit_41 : decode cX6_takesDigit 41 = .ok (.iload_n 2, 1) := by decide +kernel
theorem dX6_takesDigit_42 : decode cX6_takesDigit 42 = .ok (.ifCond .le 24, 3) := by decide +kernel
theorem dX6_takesDigit_45 : decode cX6_takesDigit 45 = .ok (.bipush 10, 2) := by decide +kernel
theorem dX6_takesDigit_47 : decode cX6_takesDigit 47 = .ok (.iload_n 2, 1) := by decide +kernel
theorem dX6_takesDigit_48 : decode cX6_takesDigit 48 = .ok (.imul, 1) := by decide +kernel
theorem dX6_takesDigit_49 : decode cX6_takesDigit 49 = .ok (.iload_n 1, 1) := by decide +kernel
theorem dX6_takesDigit_50 : decode cX6_takesDigit 50 = .ok (.iadd, 1) := by decide +kernel
theorem dX6_takesDigit_51 : decode cX6_takesDigit 51 = .ok (.getstatic 65, 3) := by decide +kernel
theorem dX6_takesDigit_54 : decode cX6_takesDigit 54 = .ok (.aload_n 0, 1) := by decide +kernel
theorem dX6_takesDigit_55 : decode cX6_takesDigit 55 = .ok (.getfield 55, 3) := by decide +kernel
theorem dX6_takesDigit_58 : decode cX6_takesDigit 58 = .ok (.iaload, 1) := by decide +kernel
theorem dX6_takesDigit_59 : decode cX6_takesDigit 59 = .ok (.if_icmp .gt 7, 3) := by decide +kernel
theorem dX6_takesDigit_62 : decode cX6_takesDigit 62 = .ok (.iconst 1, 1) := by decide +kernel
theorem dX6_takesDigit_63 : decode cX6_takesDigit 63 = .ok (.goto 4, 3) := by decide +kernel
theorem dX6_takesDigit_66 : decode cX6_takesDigit 66 = .ok (.iconst 0, 1) := by decide +kernel
theorem dX6_takesDigit_67 : decode cX6_takesDigit 67 = .ok (.istore_n 3, 1) := by decide +kernel
theorem dX6_takesDigit_68 : decode cX6_takesDigit 68 = .ok (.iload_n 3, 1) := by decide +kernel
theorem dX6_takesDigit_69 : decode cX6_takesDigit 69 = .ok (.ifCond .eq 18, 3) := by decide +kernel
theorem dX6_takesDigit_72 : decode cX6_takesDigit 72 = .ok (.aload_n 0, 1) := by decide +kernel
theorem dX6_takesDigit_73 : decode cX6_takesDigit 73 = .ok (.getfield 24, 3) := by decide +kernel
theorem dX6_takesDigit_76 : decode cX6_takesDigit 76 = .ok (.aload_n 0, 1) := by decide +kernel
theorem dX6_takesDigit_77 : decode cX6_takesDigit 77 = .ok (.getfield 55, 3) := by decide +kernel
theorem dX6_takesDigit_80 : decode cX6_takesDigit 80 = .ok (.bipush 10, 2) := by decide +kernel
theorem dX6_takesDigit_82 : decode cX6_takesDigit 82 = .ok (.iload_n 2, 1) := by decide +kernel
theorem dX6_takesDigit_83 : decode cX6_takesDigit 83 = .ok (.imul, 1) := by decide +kernel
theorem dX6_takesDigit_84 : decode cX6_takesDigit 84 = .ok (.iload_n 1, 1) := by decide +kernel
theorem dX6_takesDigit_85 : decode cX6_takesDigit 85 = .ok (.iadd, 1) := by decide +kernel
theorem dX6_takesDigit_86 : decode cX6_takesDigit 86 = .ok (.iastore, 1) := by decide +kernel
theorem dX6_takesDigit_87 : decode cX6_takesDigit 87 = .ok (.iload_n 3, 1) := by decide +kernel
theorem dX6_takesDigit_88 : decode cX6_takesDigit 88 = .ok (.ireturn, 1) := by decide +kernel
set_option maxHeartbeats 4000000 in
set_option maxRecDepth 100000 in
theorem w_X6_takesDigit_j68 {w : WT} {l : Launch} {p : Program} {e : Env} {s : State} {m : MethodId} {args : Array Value} {below : List Frame} {meth : Method} {c : Code} (C : KC w p s m args meth c cX6_takesDigit 4 RX6 (some .boolean)) {v1 : Int32} {v2 : Int32} {v3 : Int32} {M : Mem} {L : Lng} {out : Int32 × Mem} (hf : f_X6_takesDigit_j68 v1 v2 v3 M = some out) : AtL w p l e ({ frames := 0, cells := 0, slots := 0, locals := 0 } : Room) s m args below meth c (MQ below (QI w out.1 out.2 L) args s 0 0 (wA w)) 4 68 M L [(0, .ref (wAd w 48)), (1, .int v1), (2, .int v2), (3, .int v3)] [] := by
  intro H locs ls hP hS hl
  unfold f_X6_takesDigit_j68 at hf
  refine lv_iload_n C.1 C.2.1 dX6_takesDigit_68 rfl (lv_at hl 3 rfl) ?_
  refine lv_if_eq (tgt := 87) C.1 C.2.1 dX6_takesDigit_69 (by decide) (fun c4 => ?_) (fun c4 => ?_)
  · have hf := (if_pos c4).symm.trans hf
    refine lv_iload_n C.1 C.2.1 dX6_takesDigit_87 rfl (lv_at hl 3 rfl) ?_
    obtain ⟨x5, hx5, hf⟩ := ob hf
    cases hf
    exact krz C hP hS hx5 dX6_takesDigit_88
  · have hf := (if_neg c4).symm.trans hf
    refine lv_aload_n C.1 C.2.1 dX6_takesDigit_72 rfl (lv_at hl 0 rfl) ?_
    refine k_get (v := .ref (wAd w 53)) C hP (lt_Text h0_Text) (ob_Text h0_Text w L _) rfl iX6 6 (by decide) q112 rfl dX6_takesDigit_73 ?_
    refine lv_aload_n C.1 C.2.1 dX6_takesDigit_76 rfl (lv_at hl 0 rfl) ?_
    refine k_get (v := .int (M 48 7)) C hP (lt_Text h0_Text) (ob_Text h0_Text w L _) rfl iX6 7 (by decide) q113 rfl dX6_takesDigit_77 ?_
    refine lv_bipush (v := 10) C.1 C.2.1 dX6_takesDigit_80 (by decide) ?_
    refine lv_iload_n C.1 C.2.1 dX6_takesDigit_82 rfl (lv_at hl 2 rfl) ?_
    refine lv_imul C.1 C.2.1 dX6_takesDigit_83 ?_
    refine lv_iload_n C.1 C.2.1 dX6_takesDigit_84 rfl (lv_at hl 1 rfl) ?_
    refine lv_iadd C.1 C.2.1 dX6_takesDigit_85 ?_
    obtain ⟨M6, hM6, hf⟩ := ob hf
    refine k_iast C hP hS (la_Text_numbers h0_Text) (ar_Text_numbers h0_Text w L) hM6 dX6_takesDigit_86 (fun H locs hP hS => ?_)
    refine lv_iload_n C.1 C.2.1 dX6_takesDigit_87 rfl (lv_at hl 3 rfl) ?_
    obtain ⟨x7, hx7, hf⟩ := ob hf
    cases hf
    exact krz C hP hS hx7 dX6_takesDigit_88
set_option maxHeartbeats 4000000 in
set_option maxRecDepth 100000 in
theorem w_X6_takesDigit_j67 {w : WT} {l : Launch} {p : Program} {e : Env} {s : State} {m : MethodId} {args : Array Value} {below : List Frame} {meth : Method} {c : Code} (C : KC w p s m args meth c cX6_takesDigit 4 RX6 (some .boolean)) {v1 : Int32} {v2 : Int32} {s0 : Int32} {M : Mem} {L : Lng} {out : Int32 × Mem} (hf : f_X6_takesDigit_j67 v1 v2 s0 M = some out) : AtL w p l e ({ frames := 0, cells := 0, slots := 0, locals := 0 } : Room) s m args below meth c (MQ below (QI w out.1 out.2 L) args s 0 0 (wA w)) 4 67 M L [(0, .ref (wAd w 48)), (1, .int v1), (2, .int v2)] [.int s0] := by
  intro H locs ls hP hS hl
  unfold f_X6_takesDigit_j67 at hf
  refine lv_istore_n (lv' := [(3, .int s0), (0, .ref (wAd w 48)), (1, .int v1), (2, .int v2)]) C.1 C.2.1 dX6_takesDigit_67 rfl hl (by decide) rfl (fun ls hl => ?_)
  exact w_X6_takesDigit_j68 C hf _ _ _ hP hS (lv_sub hl [1, 2, 3, 0] rfl)
set_option maxHeartbeats 4000000 in
set_option maxRecDepth 100000 in
theorem w_X6_takesDigit_j66 {w : WT} {l : Launch} {p : Program} {e : Env} {s : State} {m : MethodId} {args : Array Value} {below : List Frame} {meth : Method} {c : Code} (C : KC w p s m args meth c cX6_takesDigit 4 RX6 (some .boolean)) {v1 : Int32} {v2 : Int32} {M : Mem} {L : Lng} {out : Int32 × Mem} (hf : f_X6_takesDigit_j66 v1 v2 M = some out) : AtL w p l e ({ frames := 0, cells := 0, slots := 0, locals := 0 } : Room) s m args below meth c (MQ below (QI w out.1 out.2 L) args s 0 0 (wA w)) 4 66 M L [(0, .ref (wAd w 48)), (1, .int v1), (2, .int v2)] [] := by
  intro H locs ls hP hS hl
  unfold f_X6_takesDigit_j66 at hf
  refine lv_iconst (v := 0) C.1 C.2.1 dX6_takesDigit_66 (by decide) ?_
  exact w_X6_takesDigit_j67 C hf _ _ _ hP hS hl
set_option maxHeartbeats 4000000 in
set_option maxRecDepth 100000 in
theorem w_X6_takesDigit_j35 {w : WT} {l : Launch} {p : Program} {e : Env} {s : State} {m : MethodId} {args : Array Value} {below : List Frame} {meth : Method} {c : Code} (C : KC w p s m args meth c cX6_takesDigit 4 RX6 (some .boolean)) {v1 : Int32} {s0 : Int32} {M : Mem} {L : Lng} {out : Int32 × Mem} (hf : f_X6_takesDigit_j35 v1 s0 M = some out) : AtL w p l e ({ frames := 0, cells := 0, slots := 0, locals := 0 } : Room) s m args below meth c (MQ below (QI w out.1 out.2 L) args s 0 0 (wA w)) 4 35 M L [(0, .ref (wAd w 48)), (1, .int v1)] [.int s0] := by
  intro H locs ls hP hS hl
  unfold f_X6_takesDigit_j35 at hf
  refine lv_istore_n (lv' := [(3, .int s0), (0, .ref (wAd w 48)), (1, .int v1)]) C.1 C.2.1 dX6_takesDigit_35 rfl hl (by decide) rfl (fun ls hl => ?_)
  refine lv_iconst (v := 0) C.1 C.2.1 dX6_takesDigit_36 (by decide) ?_
  refine lv_istore_n (lv' := [(2, .int 0), (3, .int s0), (0, .ref (wAd w 48)), (1, .int v1)]) C.1 C.2.1 dX6_takesDigit_37 rfl hl (by decide) rfl (fun ls hl => ?_)
  refine lv_goto (tgt := 68) C.1 C.2.1 dX6_takesDigit_38 (by decide) ?_
  exact w_X6_takesDigit_j68 C hf _ _ _ hP hS (lv_sub hl [2, 3, 0, 1] rfl)
set_option maxHeartbeats 4000000 in
set_option maxRecDepth 100000 in
theorem w_X6_takesDigit_j30 {w : WT} {l : Launch} {p : Program} {e : Env} {s : State} {m : MethodId} {args : Array Value} {below : List Frame} {meth : Method} {c : Code} (C : KC w p s m args meth c cX6_takesDigit 4 RX6 (some .boolean)) {v1 : Int32} {M : Mem} {L : Lng} {out : Int32 × Mem} (hf : f_X6_takesDigit_j30 v1 M = some out) : AtL w p l e ({ frames := 0, cells := 0, slots := 0, locals := 0 } : Room) s m args below meth c (MQ below (QI w out.1 out.2 L) args s 0 0 (wA w)) 4 30 M L [(0, .ref (wAd w 48)), (1, .int v1)] [] := by
  intro H locs ls hP hS hl
  unfold f_X6_takesDigit_j30 at hf
  refine lv_iconst (v := 1) C.1 C.2.1 dX6_takesDigit_30 (by decide) ?_
  refine lv_goto (tgt := 35) C.1 C.2.1 dX6_takesDigit_31 (by decide) ?_
  exact w_X6_takesDigit_j35 C hf _ _ _ hP hS hl
set_option maxHeartbeats 4000000 in
set_option maxRecDepth 100000 in
theorem c_X6_takesDigit (w : WT) (l : Launch) (hw : WOK w) {a1 : Int32} {M : Mem} {L : Lng} {out : Int32 × Mem} (hf : f_X6_takesDigit a1 M = some out) : Met l yX6_takesDigit (Cond.code yX6_takesDigit cX6_takesDigit 4 (some .boolean) :: BG) ({ frames := 0, cells := 0, slots := 0, locals := 0 } : Room) (PRE w [.ref (wAd w 48), .int a1] M L) (QI w out.1 out.2 L) 0 0 (wA w) := by
  refine kEnt hw (by decide +kernel) rfl (Nat.le_of_ble_eq_true rfl) ?_
  intro p e s m args below meth c C ls hl hP
  have hS : va_S (wA w) s.heap s.heap [] := va_S.rf
  have hl : lv_has ls 4 [(0, .ref (wAd w 48)), (1, .int a1)] := hl
  unfold f_X6_takesDigit at hf
  refine lv_aload_n C.1 C.2.1 dX6_takesDigit_0 rfl (lv_at hl 0 rfl) ?_
  refine k_get (v := .ref (wAd w 53)) C hP (lt_Text h0_Text) (ob_Text h0_Text w L _) rfl iX6 6 (by decide) q112 rfl dX6_takesDigit_1 ?_
  refine lv_aload_n C.1 C.2.1 dX6_takesDigit_4 rfl (lv_at hl 0 rfl) ?_
  refine k_get (v := .int (M 48 7)) C hP (lt_Text h0_Text) (ob_Text h0_Text w L _) rfl iX6 7 (by decide) q113 rfl dX6_takesDigit_5 ?_
  obtain ⟨x1, hx1, hf⟩ := ob hf
  refine k_iald C hP (la_Text_numbers h0_Text) (ar_Text_numbers h0_Text w L _) hx1 dX6_takesDigit_8 ?_
  refine lv_istore_n (lv' := [(2, .int x1), (0, .ref (wAd w 48)), (1, .int a1)]) C.1 C.2.1 dX6_takesDigit_9 rfl hl (by decide) rfl (fun ls hl => ?_)
  refine lv_iload_n C.1 C.2.1 dX6_takesDigit_10 rfl (lv_at hl 0 rfl) ?_
  refine lv_iconst (v := (-1)) C.1 C.2.1 dX6_takesDigit_11 (by decide) ?_
  refine lv_icmp_ne (tgt := 41) C.1 C.2.1 dX6_takesDigit_12 (by decide) (fun c2 => ?_) (fun c2 => ?_)
  · have hf := (if_neg c2).symm.trans hf
    refine lv_iload_n C.1 C.2.1 dX6_takesDigit_41 rfl (lv_at hl 0 rfl) ?_
    refine lv_if_le (tgt := 66) C.1 C.2.1 dX6_takesDigit_42 (by decide) (fun c3 => ?_) (fun c3 => ?_)
    · have hf := (if_pos c3).symm.trans hf
      exact w_X6_takesDigit_j66 C hf _ _ _ hP hS (lv_sub hl [1, 2, 0] rfl)
    · have hf := (if_neg c3).symm.trans hf
      refine lv_bipush (v := 10) C.1 C.2.1 dX6_takesDigit_45 (by decide) ?_
      refine lv_iload_n C.1 C.2.1 dX6_takesDigit_47 rfl (lv_at hl 0 rfl) ?_
      refine lv_imul C.1 C.2.1 dX6_takesDigit_48 ?_
      refine lv_iload_n C.1 C.2.1 dX6_takesDigit_49 rfl (lv_at hl 2 rfl) ?_
      refine lv_iadd C.1 C.2.1 dX6_takesDigit_50 ?_
      refine k_getsN (k := 4) C hS (by decide) nw17 dX6_takesDigit_51 ?_
      refine lv_aload_n C.1 C.2.1 dX6_takesDigit_54 rfl (lv_at hl 1 rfl) ?_
      refine k_get (v := .int (M 48 7)) C hP (lt_Text h0_Text) (ob_Text h0_Text w L _) rfl iX6 7 (by decide) q113 rfl dX6_takesDigit_55 ?_
      obtain ⟨x8, hx8, hf⟩ := ob hf
      refine k_ti (k := 4) C hS (by decide) hx8 dX6_takesDigit_58 ?_
      refine lv_icmp_gt (tgt := 66) C.1 C.2.1 dX6_takesDigit_59 (by decide) (fun c9 => ?_) (fun c9 => ?_)
      · have hf := (if_pos c9).symm.trans hf
        exact w_X6_takesDigit_j66 C hf _ _ _ hP hS (lv_sub hl [1, 2, 0] rfl)
      · have hf := (if_neg c9).symm.trans hf
        refine lv_iconst (v := 1) C.1 C.2.1 dX6_takesDigit_62 (by decide) ?_
        refine lv_goto (tgt := 67) C.1 C.2.1 dX6_takesDigit_63 (by decide) ?_
        exact w_X6_takesDigit_j67 C hf _ _ _ hP hS (lv_sub hl [1, 2, 0] rfl)
  · have hf := (if_pos c2).symm.trans hf
    refine lv_iload_n C.1 C.2.1 dX6_takesDigit_15 rfl (lv_at hl 2 rfl) ?_
    refine lv_if_gt (tgt := 30) C.1 C.2.1 dX6_takesDigit_16 (by decide) (fun c10 => ?_) (fun c10 => ?_)
    · have hf := (if_pos c10).symm.trans hf
      exact w_X6_takesDigit_j30 C hf _ _ _ hP hS (lv_sub hl [1, 2] rfl)
    · have hf := (if_neg c10).symm.trans hf
      refine k_getsN (k := 3) C hS (by decide) nw16 dX6_takesDigit_19 ?_
      refine lv_aload_n C.1 C.2.1 dX6_takesDigit_22 rfl (lv_at hl 1 rfl) ?_
      refine k_get (v := .int (M 48 7)) C hP (lt_Text h0_Text) (ob_Text h0_Text w L _) rfl iX6 7 (by decide) q113 rfl dX6_takesDigit_23 ?_
      obtain ⟨x11, hx11, hf⟩ := ob hf
      refine k_ti (k := 3) C hS (by decide) hx11 dX6_takesDigit_26 ?_
      refine lv_if_ne (tgt := 34) C.1 C.2.1 dX6_takesDigit_27 (by decide) (fun c12 => ?_) (fun c12 => ?_)
      · have hf := (if_neg c12).symm.trans hf
        refine lv_iconst (v := 0) C.1 C.2.1 dX6_takesDigit_34 (by decide) ?_
        exact w_X6_takesDigit_j35 C hf _ _ _ hP hS (lv_sub hl [1, 2] rfl)
      · have hf := (if_pos c12).symm.trans hf
        exact w_X6_takesDigit_j30 C hf _ _ _ hP hS (lv_sub hl [1, 2] rfl)
theorem dX6_numberIsWhole_0 : decode cX6_numberIsWhole 0 = .ok (.aload_n 0, 1) := by decide +kernel
theorem dX6_numberIsWhole_1 : decode cX6_numberIsWhole 1 = .ok (.getfield 24, 3) := by decide +kernel
theorem dX6_numberIsWhole_4 : decode cX6_numberIsWhole 4 = .ok (.aload_n 0, 1) := by decide +kernel
theorem dX6_numberIsWhole_5 : decode cX6_numberIsWhole 5 = .ok (.getfield 55, 3) := by decide +kernel
theorem dX6_numberIsWhole_8 : decode cX6_numberIsWhole 8 = .ok (.iaload, 1) := by decide +kernel
theorem dX6_numberIsWhole_9 : decode cX6_numberIsWhole 9 = .ok (.iconst (-1), 1) := by decide +kernel
theorem dX6_numberIsWhole_10 : decode cX6_numberIsWhole 10 = .ok (.if_icmp .eq 27, 3) := by decide +kernel
theorem dX6_numberIsWhole_13 : decode cX6_numberIsWhole 13 = .ok (.aload_n 0, 1) := by decide +kernel
theorem dX6_numberIsWhole_14 : decode cX6_numberIsWhole 14 = .ok (.getfield 24, 3) := by decide +kernel
theorem dX6_numberIsWhole_17 : decode cX6_numberIsWhole 17 = .ok (.aload_n 0, 1) := by decide +kernel
theorem dX6_numberIsWhole_18 : decode cX6_numberIsWhole 18 = .ok (.getfield 55, 3) := by decide +kernel
theorem dX6_numberIsWhole_21 : decode cX6_numberIsWhole 21 = .ok (.iaload, 1) := by decide +kernel
theorem dX6_numberIsWhole_22 : decode cX6_numberIsWhole 22 = .ok (.getstatic 62, 3) := by decide +kernel
theorem dX6_numberIsWhole_25 : decode cX6_numberIsWhole 25 = .ok (.aload_n 0, 1) := by decide +kernel
theorem dX6_numberIsWhole_26 : decode cX6_numberIsWhole 26 = .ok (.getfield 55, 3) := by decide +kernel
theorem dX6_numberIsWhole_29 : decode cX6_numberIsWhole 29 = .ok (.iaload, 1) := by decide +kernel
theorem dX6_numberIsWhole_30 : decode cX6_numberIsWhole 30 = .ok (.if_icmp .lt 7, 3) := by decide +kernel
theorem dX6_numberIsWhole_33 : decode cX6_numberIsWhole 33 = .ok (.iconst 1, 1) := by decide +kernel
theorem dX6_numberIsWhole_34 : decode cX6_numberIsWhole 34 = .ok (.goto 4, 3) := by decide +kernel
theorem dX6_numberIsWhole_37 : decode cX6_numberIsWhole 37 = .ok (.iconst 0, 1) := by decide +kernel
theorem dX6_numberIsWhole_38 : decode cX6_numberIsWhole 38 = .ok (.ireturn, 1) := by decide +kernel
set_option maxHeartbeats 4000000 in
set_option maxRecDepth 100000 in
theorem c_X6_numberIsWhole (w : WT) (l : Launch) (hw : WOK w) {M : Mem} {L : Lng} {out : Int32} (hf : f_X6_numberIsWhole M = some out) : Met l yX6_numberIsWhole (Cond.code yX6_numberIsWhole cX6_numberIsWhole 1 (some .boolean) :: BG) ({ frames := 0, cells := 0, slots := 0, locals := 0 } : Room) (PRE w [.ref (wAd w 48)] M L) (QI w out M L) 0 0 (wA w) := by
  refine kEnt hw (by decide +kernel) rfl (Nat.le_of_ble_eq_true rfl) ?_
  intro p e s m args below meth c C ls hl hP
  have hS : va_S (wA w) s.heap s.heap [] := va_S.rf
  have hl : lv_has ls 1 [(0, .ref (wAd w 48))] := hl
  unfold f_X6_numberIsWhole at hf
  refine lv_aload_n C.1 C.2.1 dX6_numberIsWhole_0 rfl (lv_at hl 0 rfl) ?_
  refine k_get (v := .ref (wAd w 53)) C hP (lt_Text h0_Text) (ob_Text h0_Text w L _) rfl iX6 6 (by decide) q112 rfl dX6_numberIsWhole_1 ?_
  refine lv_aload_n C.1 C.2.1 dX6_numberIsWhole_4 rfl (lv_at hl 0 rfl) ?_
  refine k_get (v := .int (M 48 7)) C hP (lt_Text h0_Text) (ob_Text h0_Text w L _) rfl iX6 7 (by decide) q113 rfl dX6_numberIsWhole_5 ?_
  obtain ⟨x1, hx1, hf⟩ := ob hf
  refine k_iald C hP (la_Text_numbers h0_Text) (ar_Text_numbers h0_Text w L _) hx1 dX6_numberIsWhole_8 ?_
  refine lv_iconst (v := (-1)) C.1 C.2.1 dX6_numberIsWhole_9 (by decide) ?_
  refine lv_icmp_eq (tgt := 37) C.1 C.2.1 dX6_numberIsWhole_10 (by decide) (fun c2 => ?_) (fun c2 => ?_)
  · have hf := (if_pos c2).symm.trans hf
    refine lv_iconst (v := 0) C.1 C.2.1 dX6_numberIsWhole_37 (by decide) ?_
    cases hf
    exact krz C hP hS bz0 dX6_numberIsWhole_38
  · have hf := (if_neg c2).symm.trans hf
    refine lv_aload_n C.1 C.2.1 dX6_numberIsWhole_13 rfl (lv_at hl 0 rfl) ?_
    refine k_get (v := .ref (wAd w 53)) C hP (lt_Text h0_Text) (ob_Text h0_Text w L _) rfl iX6 6 (by decide) q112 rfl dX6_numberIsWhole_14 ?_
    refine lv_aload_n C.1 C.2.1 dX6_numberIsWhole_17 rfl (lv_at hl 0 rfl) ?_
    refine k_get (v := .int (M 48 7)) C hP (lt_Text h0_Text) (ob_Text h0_Text w L _) rfl iX6 7 (by decide) q113 rfl dX6_numberIsWhole_18 ?_
    obtain ⟨x3, hx3, hf⟩ := ob hf
    refine k_iald C hP (la_Text_numbers h0_Text) (ar_Text_numbers h0_Text w L _) hx3 dX6_numberIsWhole_21 ?_
    refine k_getsN (k := 3) C hS (by decide) nw16 dX6_numberIsWhole_22 ?_
    refine lv_aload_n C.1 C.2.1 dX6_numberIsWhole_25 rfl (lv_at hl 0 rfl) ?_
    refine k_get (v := .int (M 48 7)) C hP (lt_Text h0_Text) (ob_Text h0_Text w L _) rfl iX6 7 (by decide) q113 rfl dX6_numberIsWhole_26 ?_
    obtain ⟨x4, hx4, hf⟩ := ob hf
    refine k_ti (k := 3) C hS (by decide) hx4 dX6_numberIsWhole_29 ?_
    refine lv_icmp_lt (tgt := 37) C.1 C.2.1 dX6_numberIsWhole_30 (by decide) (fun c5 => ?_) (fun c5 => ?_)
    · have hf := (if_pos c5).symm.trans hf
      refine lv_iconst (v := 0) C.1 C.2.1 dX6_numberIsWhole_37 (by decide) ?_
      cases hf
      exact krz C hP hS bz0 dX6_numberIsWhole_38
    · have hf := (if_neg c5).symm.trans hf
      refine lv_iconst (v := 1) C.1 C.2.1 dX6_numberIsWhole_33 (by decide) ?_
      refine lv_goto (tgt := 38) C.1 C.2.1 dX6_numberIsWhole_34 (by decide) ?_
      cases hf
      exact krz C hP hS bz1 dX6_numberIsWhole_38
theorem dX6_endPart_0 : decode cX6_endPart 0 = .ok (.aload_n 0, 1) := by decide +kernel
theorem dX6_endPart_1 : decode cX6_endPart 1 = .ok (.getfield 31, 3) := by decide +kernel
theorem dX6_endPart_4 : decode cX6_endPart 4 = .ok (.bipush 30, 2) := by decide +kernel
theorem dX6_endPart_6 : decode cX6_endPart 6 = .ok (.if_icmp .ge 58, 3) := by decide +kernel
theorem dX6_endPart_9 : decode cX6_endPart 9 = .ok (.aload_n 0, 1) := by decide +kernel
theorem dX6_endPart_10 : decode cX6_endPart 10 = .ok (.getfield 15, 3) := by decide +kernel
theorem dX6_endPart_13 : decode cX6_endPart 13 = .ok (.aload_n 0, 1) := by decide +kernel
theorem dX6_endPart_14 : decode cX6_endPart 14 = .ok (.getfield 31, 3) := by decide +kernel
theorem dX6_endPart_17 : decode cX6_endPart 17 = .ok (.aload_n 0, 1) := by decide +kernel
theorem dX6_endPart_18 : decode cX6_endPart 18 = .ok (.getfield 24, 3) := by decide +kernel
theorem dX6_endPart_21 : decode cX6_endPart 21 = .ok (.iconst 0, 1) := by decide +kernel
theorem dX6_endPart_22 : decode cX6_endPart 22 = .ok (.iaload, 1) := by decide +kernel
theorem dX6_endPart_23 : decode cX6_endPart 23 = .ok (.iastore, 1) := by decide +kernel
theorem dX6_endPart_24 : decode cX6_endPart 24 = .ok (.aload_n 0, 1) := by decide +kernel
theorem dX6_endPart_25 : decode cX6_endPart 25 = .ok (.getfield 18, 3) := by decide +kernel
theorem dX6_endPart_28 : decode cX6_endPart 28 = .ok (.aload_n 0, 1) := by decide +kernel
theorem dX6_endPart_29 : decode cX6_endPart 29 = .ok (.getfield 31, 3) := by decide +kernel
theorem dX6_endPart_32 : decode cX6_endPart 32 = .ok (.aload_n 0, 1) := by decide +kernel
theorem dX6_endPart_33 : decode cX6_endPart 33 = .ok (.getfield 24, 3) := by decide +kernel
theorem dX6_endPart_36 : decode cX6_endPart 36 = .ok (.iconst 1, 1) := by decide +kernel
theorem dX6_endPart_37 : decode cX6_endPart 37 = .ok (.iaload, 1) := by decide +kernel
theorem dX6_endPart_38 : decode cX6_endPart 38 = .ok (.iastore, 1) := by decide +kernel
theorem dX6_endPart_39 : decode cX6_endPart 39 = .ok (.aload_n 0, 1) := by decide +kernel
theorem dX6_endPart_40 : decode cX6_endPart 40 = .ok (.getfield 21, 3) := by decide +kernel
theorem dX6_endPart_43 : decode cX6_endPart 43 = .ok (.aload_n 0, 1) := by decide +kernel
theorem dX6_endPart_44 : decode cX6_endPart 44 = .ok (.getfield 31, 3) := by decide +kernel
theorem dX6_endPart_47 : decode cX6_endPart 47 = .ok (.aload_n 0, 1) := by decide +kernel
theorem dX6_endPart_48 : decode cX6_endPart 48 = .ok (.getfield 24, 3) := by decide +kernel
theorem dX6_endPart_51 : decode cX6_endPart 51 = .ok (.iconst 2, 1) := by decide +kernel
theorem dX6_endPart_52 : decode cX6_endPart 52 = .ok (.iaload, 1) := by decide +kernel
theorem dX6_endPart_53 : decode cX6_endPart 53 = .ok (.iastore, 1) := by decide +kernel
theorem dX6_endPart_54 : decode cX6_endPart 54 = .ok (.aload_n 0, 1) := by decide +kernel
theorem dX6_endPart_55 : decode cX6_endPart 55 = .ok (.dup, 1) := by decide +kernel
theorem dX6_endPart_56 : decode cX6_endPart 56 = .ok (.getfield 31, 3) := by decide +kernel
theorem dX6_endPart_59 : decode cX6_endPart 59 = .ok (.iconst 1, 1) := by decide +kernel
theorem dX6_endPart_60 : decode cX6_endPart 60 = .ok (.iadd, 1) := by decide +kernel
theorem dX6_endPart_61 : decode cX6_endPart 61 = .ok (.putfield 31, 3) := by decide +kernel
theorem dX6_endPart_64 : decode cX6_endPart 64 = .ok (.return_, 1) := by decide +kernel
set_option maxHeartbeats 4000000 in
set_option maxRecDepth 100000 in
theorem c_X6_endPart (w : WT) (l : Launch) (hw : WOK w) {M : Mem} {L : Lng} {out : Mem} (hf : f_X6_endPart M = some out) : Met l yX6_endPart (Cond.code yX6_endPart cX6_endPart 1 none :: BG) ({ frames := 0, cells := 0, slots := 0, locals := 0 } : Room) (PRE w [.ref (wAd w 48)] M L) (QV w out L) 0 0 (wA w) := by
  refine kEnt hw (by decide +kernel) rfl (Nat.le_of_ble_eq_true rfl) ?_
  intro p e s m args below meth c C ls hl hP
  have hS : va_S (wA w) s.heap s.heap [] := va_S.rf
  have hl : lv_has ls 1 [(0, .ref (wAd w 48))] := hl
  unfold f_X6_endPart at hf
  refine lv_aload_n C.1 C.2.1 dX6_endPart_0 rfl (lv_at hl 0 rfl) ?_
  refine k_get (v := .int (M 48 5)) C hP (lt_Text h0_Text) (ob_Text h0_Text w L _) rfl iX6 5 (by decide) q110 rfl dX6_endPart_1 ?_
  refine lv_bipush (v := 30) C.1 C.2.1 dX6_endPart_4 (by decide) ?_
  refine lv_icmp_ge (tgt := 64) C.1 C.2.1 dX6_endPart_6 (by decide) (fun c1 => ?_) (fun c1 => ?_)
  · have hf := (if_pos c1).symm.trans hf
    cases hf
    exact krv C hP hS dX6_endPart_64
  · have hf := (if_neg c1).symm.trans hf
    refine lv_aload_n C.1 C.2.1 dX6_endPart_9 rfl (lv_at hl 0 rfl) ?_
    refine k_get (v := .ref (wAd w 50)) C hP (lt_Text h0_Text) (ob_Text h0_Text w L _) rfl iX6 2 (by decide) q104 rfl dX6_endPart_10 ?_
    refine lv_aload_n C.1 C.2.1 dX6_endPart_13 rfl (lv_at hl 0 rfl) ?_
    refine k_get (v := .int (M 48 5)) C hP (lt_Text h0_Text) (ob_Text h0_Text w L _) rfl iX6 5 (by decide) q110 rfl dX6_endPart_14 ?_
    refine lv_aload_n C.1 C.2.1 dX6_endPart_17 rfl (lv_at hl 0 rfl) ?_
    refine k_get (v := .ref (wAd w 53)) C hP (lt_Text h0_Text) (ob_Text h0_Text w L _) rfl iX6 6 (by decide) q112 rfl dX6_endPart_18 ?_
    refine lv_iconst (v := 0) C.1 C.2.1 dX6_endPart_21 (by decide) ?_
    obtain ⟨x2, hx2, hf⟩ := ob hf
    refine k_iald C hP (la_Text_numbers h0_Text) (ar_Text_numbers h0_Text w L _) hx2 dX6_endPart_22 ?_
    obtain ⟨M3, hM3, hf⟩ := ob hf
    refine k_iast C hP hS (la_Text_levels h0_Text) (ar_Text_levels h0_Text w L) hM3 dX6_endPart_23 (fun H locs hP hS => ?_)
    refine lv_aload_n C.1 C.2.1 dX6_endPart_24 rfl (lv_at hl 0 rfl) ?_
    refine k_get (v := .ref (wAd w 51)) C hP (lt_Text h0_Text) (ob_Text h0_Text w L _) rfl iX6 3 (by decide) q106 rfl dX6_endPart_25 ?_
    refine lv_aload_n C.1 C.2.1 dX6_endPart_28 rfl (lv_at hl 0 rfl) ?_
    refine k_get (v := .int (M3 48 5)) C hP (lt_Text h0_Text) (ob_Text h0_Text w L _) rfl iX6 5 (by decide) q110 rfl dX6_endPart_29 ?_
    refine lv_aload_n C.1 C.2.1 dX6_endPart_32 rfl (lv_at hl 0 rfl) ?_
    refine k_get (v := .ref (wAd w 53)) C hP (lt_Text h0_Text) (ob_Text h0_Text w L _) rfl iX6 6 (by decide) q112 rfl dX6_endPart_33 ?_
    refine lv_iconst (v := 1) C.1 C.2.1 dX6_endPart_36 (by decide) ?_
    obtain ⟨x4, hx4, hf⟩ := ob hf
    refine k_iald C hP (la_Text_numbers h0_Text) (ar_Text_numbers h0_Text w L _) hx4 dX6_endPart_37 ?_
    obtain ⟨M5, hM5, hf⟩ := ob hf
    refine k_iast C hP hS (la_Text_winds h0_Text) (ar_Text_winds h0_Text w L) hM5 dX6_endPart_38 (fun H locs hP hS => ?_)
    refine lv_aload_n C.1 C.2.1 dX6_endPart_39 rfl (lv_at hl 0 rfl) ?_
    refine k_get (v := .ref (wAd w 52)) C hP (lt_Text h0_Text) (ob_Text h0_Text w L _) rfl iX6 4 (by decide) q108 rfl dX6_endPart_40 ?_
    refine lv_aload_n C.1 C.2.1 dX6_endPart_43 rfl (lv_at hl 0 rfl) ?_
    refine k_get (v := .int (M5 48 5)) C hP (lt_Text h0_Text) (ob_Text h0_Text w L _) rfl iX6 5 (by decide) q110 rfl dX6_endPart_44 ?_
    refine lv_aload_n C.1 C.2.1 dX6_endPart_47 rfl (lv_at hl 0 rfl) ?_
    refine k_get (v := .ref (wAd w 53)) C hP (lt_Text h0_Text) (ob_Text h0_Text w L _) rfl iX6 6 (by decide) q112 rfl dX6_endPart_48 ?_
    refine lv_iconst (v := 2) C.1 C.2.1 dX6_endPart_51 (by decide) ?_
    obtain ⟨x6, hx6, hf⟩ := ob hf
    refine k_iald C hP (la_Text_numbers h0_Text) (ar_Text_numbers h0_Text w L _) hx6 dX6_endPart_52 ?_
    obtain ⟨M7, hM7, hf⟩ := ob hf
    refine k_iast C hP hS (la_Text_times h0_Text) (ar_Text_times h0_Text w L) hM7 dX6_endPart_53 (fun H locs hP hS => ?_)
    refine lv_aload_n C.1 C.2.1 dX6_endPart_54 rfl (lv_at hl 0 rfl) ?_
    refine lv_dup C.1 C.2.1 dX6_endPart_55 rfl ?_
    refine k_get (v := .int (M7 48 5)) C hP (lt_Text h0_Text) (ob_Text h0_Text w L _) rfl iX6 5 (by decide) q110 rfl dX6_endPart_56 ?_
    refine lv_iconst (v := 1) C.1 C.2.1 dX6_endPart_59 (by decide) ?_
    refine lv_iadd C.1 C.2.1 dX6_endPart_60 ?_
    obtain ⟨M8, hM8, hf⟩ := ob hf
    refine k_puti C hP hS (lt_Text h0_Text) (fun row => ob_Text h0_Text w L row) rfl iX6 tyX6 tyX6_ok nmX6 5 (by decide) q110 rfl rfl (Nat.le_of_ble_eq_true rfl) rfl hM8 dX6_endPart_61 (fun H locs hP hS => ?_)
    cases hf
    exact krv C hP hS dX6_endPart_64
theorem dX6_takes_0 : decode cX6_takes 0 = .ok (.iload_n 1, 1) := by decide +kernel
theorem dX6_takes_1 : decode cX6_takes 1 = .ok (.bipush 48, 2) := by decide +kernel
theorem dX6_takes_3 : decode cX6_takes 3 = .ok (.if_icmp .lt 18, 3) := by decide +kernel
theorem dX6_takes_6 : decode cX6_takes 6 = .ok (.iload_n 1, 1) := by decide +kernel
theorem dX6_takes_7 : decode cX6_takes 7 = .ok (.bipush 57, 2) := by decide +kernel
theorem dX6_takes_9 : decode cX6_takes 9 = .ok (.if_icmp .gt 12, 3) := by decide +kernel
theorem dX6_takes_12 : decode cX6_takes 12 = .ok (.aload_n 0, 1) := by decide +kernel
theorem dX6_takes_13 : decode cX6_takes 13 = .ok (.iload_n 1, 1) := by decide +kernel
theorem dX6_takes_14 : decode cX6_takes 14 = .ok (.bipush 48, 2) := by decide +kernel
theorem dX6_takes_16 : decode cX6_takes 16 = .ok (.isub, 1) := by decide +kernel
theorem dX6_takes_17 : decode cX6_takes 17 = .ok (.invokevirtual 52, 3) := by decide +kernel
theorem dX6_takes_20 : decode cX6_takes 20 = .ok (.ireturn, 1) := by decide +kernel
theorem dX6_takes_21 : decode cX6_takes 21 = .ok (.aload_n 0, 1) := by decide +kernel
theorem dX6_takes_22 : decode cX6_takes 22 = .ok (.invokevirtual 45, 3) := by decide +kernel
theorem dX6_takes_25 : decode cX6_takes 25 = .ok (.ifCond .ne 5, 3) := by decide +kernel
theorem dX6_takes_28 : decode cX6_takes 28 = .ok (.iconst 0, 1) := by decide +kernel
theorem dX6_takes_29 : decode cX6_takes 29 = .ok (.ireturn, 1) := by decide +kernel
theorem dX6_takes_30 : decode cX6_takes 30 = .ok (.iload_n 1, 1) := by decide +kernel
theorem dX6_takes_31 : decode cX6_takes 31 = .ok (.bipush 64, 2) := by decide +kernel
theorem dX6_takes_33 : decode cX6_takes 33 = .ok (.if_icmp .ne 17, 3) := by decide +kernel
theorem dX6_takes_36 : decode cX6_takes 36 = .ok (.aload_n 0, 1) := by decide +kernel
theorem dX6_takes_37 : decode cX6_takes 37 = .ok (.getfield 55, 3) := by decide +kernel
theorem dX6_takes_40 : decode cX6_takes 40 = .ok (.ifCond .ne 10, 3) := by decide +kernel
theorem dX6_takes_43 : decode cX6_takes 43 = .ok (.aload_n 0, 1) := by decide +kernel
theorem dX6_takes_44 : decode cX6_takes 44 = .ok (.iconst 1, 1) := by decide +kernel
theorem dX6_takes_45 : decode cX6_takes 45 = .ok (.invokevirtual 58, 3) := by decide +kernel
theorem dX6_takes_48 : decode cX6_takes 48 = .ok (.iconst 1, 1) := by decide +kernel
theorem dX6_takes_49 : decode cX6_takes 49 = .ok (.ireturn, 1) := by decide +kernel
theorem dX6_takes_50 : decode cX6_takes 50 = .ok (.iload_n 1, 1) := by decide +kernel
theorem dX6_takes_51 : decode cX6_takes 51 = .ok (.bipush 42, 2) := by decide +kernel
theorem dX6_takes_53 : decode cX6_takes 53 = .ok (.if_icmp .ne 18, 3) := by decide +kernel
theorem dX6_takes_56 : decode cX6_takes 56 = .ok (.aload_n 0, 1) := by decide +kernel
theorem dX6_takes_57 : decode cX6_takes 57 = .ok (.getfield 55, 3) := by decide +kernel
theorem dX6_takes_60 : decode cX6_takes 60 = .ok (.iconst 2, 1) := by decide +kernel
theorem dX6_takes_61 : decode cX6_takes 61 = .ok (.if_icmp .eq 10, 3) := by decide +kernel
theorem dX6_takes_64 : decode cX6_takes 64 = .ok (.aload_n 0, 1) := by decide +kernel
theorem dX6_takes_65 : decode cX6_takes 65 = .ok (.iconst 2, 1) := by decide +kernel
theorem dX6_takes_66 : decode cX6_takes 66 = .ok (.invokevirtual 58, 3) := by decide +kernel
theorem dX6_takes_69 : decode cX6_takes 69 = .ok (.iconst 1, 1) := by decide +kernel
theorem dX6_takes_70 : decode cX6_takes 70 = .ok (.ireturn, 1) := by decide +kernel
theorem dX6_takes_71 : decode cX6_takes 71 = .ok (.iload_n 1, 1) := by decide +kernel
theorem dX6_takes_72 : decode cX6_takes 72 = .ok (.bipush 59, 2) := by decide +kernel
theorem dX6_takes_74 : decode cX6_takes 74 = .ok (.if_icmp .ne 13, 3) := by decide +kernel
theorem dX6_takes_77 : decode cX6_takes 77 = .ok (.aload_n 0, 1) := by decide +kernel
theorem dX6_takes_78 : decode cX6_takes 78 = .ok (.invokevirtual 49, 3) := by decide +kernel
theorem dX6_takes_81 : decode cX6_takes 81 = .ok (.aload_n 0, 1) := by decide +kernel
theorem dX6_takes_82 : decode cX6_takes 82 = .ok (.invokevirtual 34, 3) := by decide +kernel
theorem dX6_takes_85 : decode cX6_takes 85 = .ok (.iconst 1, 1) := by decide +kernel
theorem dX6_takes_86 : decode cX6_takes 86 = .ok (.ireturn, 1) := by decide +kernel
theorem dX6_takes_87 : decode cX6_takes 87 = .ok (.iconst 0, 1) := by decide +kernel
theorem dX6_takes_88 : decode cX6_takes 88 = .ok (.ireturn, 1) := by decide +kernel
set_option maxHeartbeats 4000000 in
set_option maxRecDepth 100000 in
theorem w_X6_takes_j71 {w : WT} {l : Launch} {p : Program} {e : Env} {s : State} {m : MethodId} {args : Array Value} {below : List Frame} {meth : Method} {c : Code} (C : KC w p s m args meth c cX6_takes 2 RX6 (some .boolean)) {v1 : Int32} {M : Mem} {L : Lng} {out : Int32 × Mem} (hf : f_X6_takes_j71 v1 M = some out) : AtL w p l e ({ frames := 2, cells := 0, slots := 0, locals := 41 } : Room) s m args below meth c (MQ below (QI w out.1 out.2 L) args s 0 0 (wA w)) 2 71 M L [(0, .ref (wAd w 48)), (1, .int v1)] [] := by
  intro H locs ls hP hS hl
  unfold f_X6_takes_j71 at hf
  refine lv_iload_n C.1 C.2.1 dX6_takes_71 rfl (lv_at hl 1 rfl) ?_
  refine lv_bipush (v := 59) C.1 C.2.1 dX6_takes_72 (by decide) ?_
  refine lv_icmp_ne (tgt := 87) C.1 C.2.1 dX6_takes_74 (by decide) (fun c6 => ?_) (fun c6 => ?_)
  · have hf := (if_neg c6).symm.trans hf
    refine lv_iconst (v := 0) C.1 C.2.1 dX6_takes_87 (by decide) ?_
    cases hf
    exact krz C hP hS bz0 dX6_takes_88
  · have hf := (if_pos c6).symm.trans hf
    refine lv_aload_n C.1 C.2.1 dX6_takes_77 rfl (lv_at hl 0 rfl) ?_
    obtain ⟨r7, hr7, hf⟩ := ob hf
    refine kcv (kV (As := []) (rest := []) C hl.1 hP hS (c_X6_endPart w l C.2.2.2.2.2.2.2.2 (L := L) hr7) (gV q339 q341 qp5 q4 q342) hd_X6_endPart (lt_Text h0_Text) (ob_Text h0_Text w L _) rfl ⟨rfl, rfl⟩ ⟨Nat.le_of_ble_eq_true rfl, Nat.le_of_ble_eq_true rfl⟩ rfl rfl (Nat.le_of_ble_eq_true rfl) dX6_takes_78 ⟨Nat.zero_le _, Nat.zero_le _⟩) hS (fun H locs hP hS => ?_)
    refine lv_aload_n C.1 C.2.1 dX6_takes_81 rfl (lv_at hl 0 rfl) ?_
    obtain ⟨r8, hr8, hf⟩ := ob hf
    refine kcv (kV (As := []) (rest := []) C hl.1 hP hS (c_X6_beginPart w l C.2.2.2.2.2.2.2.2 (L := L) hr8) (gV q315 q317 qp0 q4 q318) hd_X6_beginPart (lt_Text h0_Text) (ob_Text h0_Text w L _) rfl ⟨rfl, rfl⟩ ⟨Nat.le_of_ble_eq_true rfl, Nat.le_of_ble_eq_true rfl⟩ rfl rfl (Nat.le_of_ble_eq_true rfl) dX6_takes_82 ⟨Nat.zero_le _, Nat.zero_le _⟩) hS (fun H locs hP hS => ?_)
    refine lv_iconst (v := 1) C.1 C.2.1 dX6_takes_85 (by decide) ?_
    cases hf
    exact krz C hP hS bz1 dX6_takes_86
set_option maxHeartbeats 4000000 in
set_option maxRecDepth 100000 in
theorem w_X6_takes_j50 {w : WT} {l : Launch} {p : Program} {e : Env} {s : State} {m : MethodId} {args : Array Value} {below : List Frame} {meth : Method} {c : Code} (C : KC w p s m args meth c cX6_takes 2 RX6 (some .boolean)) {v1 : Int32} {M : Mem} {L : Lng} {out : Int32 × Mem} (hf : f_X6_takes_j50 v1 M = some out) : AtL w p l e ({ frames := 2, cells := 0, slots := 0, locals := 41 } : Room) s m args below meth c (MQ below (QI w out.1 out.2 L) args s 0 0 (wA w)) 2 50 M L [(0, .ref (wAd w 48)), (1, .int v1)] [] := by
  intro H locs ls hP hS hl
  unfold f_X6_takes_j50 at hf
  refine lv_iload_n C.1 C.2.1 dX6_takes_50 rfl (lv_at hl 1 rfl) ?_
  refine lv_bipush (v := 42) C.1 C.2.1 dX6_takes_51 (by decide) ?_
  refine lv_icmp_ne (tgt := 71) C.1 C.2.1 dX6_takes_53 (by decide) (fun c5 => ?_) (fun c5 => ?_)
  · have hf := (if_neg c5).symm.trans hf
    exact w_X6_takes_j71 C hf _ _ _ hP hS hl
  · have hf := (if_pos c5).symm.trans hf
    refine lv_aload_n C.1 C.2.1 dX6_takes_56 rfl (lv_at hl 0 rfl) ?_
    refine k_get (v := .int (M 48 7)) C hP (lt_Text h0_Text) (ob_Text h0_Text w L _) rfl iX6 7 (by decide) q113 rfl dX6_takes_57 ?_
    refine lv_iconst (v := 2) C.1 C.2.1 dX6_takes_60 (by decide) ?_
    refine lv_icmp_eq (tgt := 71) C.1 C.2.1 dX6_takes_61 (by decide) (fun c9 => ?_) (fun c9 => ?_)
    · have hf := (if_pos c9).symm.trans hf
      exact w_X6_takes_j71 C hf _ _ _ hP hS hl
    · have hf := (if_neg c9).symm.trans hf
      refine lv_aload_n C.1 C.2.1 dX6_takes_64 rfl (lv_at hl 0 rfl) ?_
      refine lv_iconst (v := 2) C.1 C.2.1 dX6_takes_65 (by decide) ?_
      obtain ⟨r10, hr10, hf⟩ := ob hf
      refine kcv (kV (As := [.int 2]) (rest := []) C hl.1 hP hS (c_X6_beginNumber w l C.2.2.2.2.2.2.2.2 (L := L) hr10) (gV q319 q321 qp1 q4 q322) hd_X6_beginNumber (lt_Text h0_Text) (ob_Text h0_Text w L _) rfl ⟨rfl, rfl⟩ ⟨Nat.le_of_ble_eq_true rfl, Nat.le_of_ble_eq_true rfl⟩ rfl rfl (Nat.le_of_ble_eq_true rfl) dX6_takes_66 ⟨Nat.zero_le _, Nat.zero_le _⟩) hS (fun H locs hP hS => ?_)
      refine lv_iconst (v := 1) C.1 C.2.1 dX6_takes_69 (by decide) ?_
      cases hf
      exact krz C hP hS bz1 dX6_takes_70
set_option maxHeartbeats 4000000 in
set_option maxRecDepth 100000 in
theorem w_X6_takes_j21 {w : WT} {l : Launch} {p : Program} {e : Env} {s : State} {m : MethodId} {args : Array Value} {below : List Frame} {meth : Method} {c : Code} (C : KC w p s m args meth c cX6_takes 2 RX6 (some .boolean)) {v1 : Int32} {M : Mem} {L : Lng} {out : Int32 × Mem} (hf : f_X6_takes_j21 v1 M = some out) : AtL w p l e ({ frames := 2, cells := 0, slots := 0, locals := 41 } : Room) s m args below meth c (MQ below (QI w out.1 out.2 L) args s 0 0 (wA w)) 2 21 M L [(0, .ref (wAd w 48)), (1, .int v1)] [] := by
  intro H locs ls hP hS hl
  unfold f_X6_takes_j21 at hf
  refine lv_aload_n C.1 C.2.1 dX6_takes_21 rfl (lv_at hl 0 rfl) ?_
  obtain ⟨r2, hr2, hf⟩ := ob hf
  refine kci (kV (As := []) (rest := []) C hl.1 hP hS (c_X6_numberIsWhole w l C.2.2.2.2.2.2.2.2 (L := L) hr2) (gV q335 q337 qp4 q4 q338) hd_X6_numberIsWhole (lt_Text h0_Text) (ob_Text h0_Text w L _) rfl ⟨rfl, rfl⟩ ⟨Nat.le_of_ble_eq_true rfl, Nat.le_of_ble_eq_true rfl⟩ rfl rfl (Nat.le_of_ble_eq_true rfl) dX6_takes_22 ⟨Nat.zero_le _, Nat.zero_le _⟩) hS (fun H locs hP hS => ?_)
  refine lv_if_ne (tgt := 30) C.1 C.2.1 dX6_takes_25 (by decide) (fun c3 => ?_) (fun c3 => ?_)
  · have hf := (if_neg c3).symm.trans hf
    refine lv_iload_n C.1 C.2.1 dX6_takes_30 rfl (lv_at hl 1 rfl) ?_
    refine lv_bipush (v := 64) C.1 C.2.1 dX6_takes_31 (by decide) ?_
    refine lv_icmp_ne (tgt := 50) C.1 C.2.1 dX6_takes_33 (by decide) (fun c4 => ?_) (fun c4 => ?_)
    · have hf := (if_neg c4).symm.trans hf
      exact w_X6_takes_j50 C hf _ _ _ hP hS hl
    · have hf := (if_pos c4).symm.trans hf
      refine lv_aload_n C.1 C.2.1 dX6_takes_36 rfl (lv_at hl 0 rfl) ?_
      refine k_get (v := .int (M 48 7)) C hP (lt_Text h0_Text) (ob_Text h0_Text w L _) rfl iX6 7 (by decide) q113 rfl dX6_takes_37 ?_
      refine lv_if_ne (tgt := 50) C.1 C.2.1 dX6_takes_40 (by decide) (fun c11 => ?_) (fun c11 => ?_)
      · have hf := (if_neg c11).symm.trans hf
        exact w_X6_takes_j50 C hf _ _ _ hP hS hl
      · have hf := (if_pos c11).symm.trans hf
        refine lv_aload_n C.1 C.2.1 dX6_takes_43 rfl (lv_at hl 0 rfl) ?_
        refine lv_iconst (v := 1) C.1 C.2.1 dX6_takes_44 (by decide) ?_
        obtain ⟨r12, hr12, hf⟩ := ob hf
        refine kcv (kV (As := [.int 1]) (rest := []) C hl.1 hP hS (c_X6_beginNumber w l C.2.2.2.2.2.2.2.2 (L := L) hr12) (gV q319 q321 qp1 q4 q322) hd_X6_beginNumber (lt_Text h0_Text) (ob_Text h0_Text w L _) rfl ⟨rfl, rfl⟩ ⟨Nat.le_of_ble_eq_true rfl, Nat.le_of_ble_eq_true rfl⟩ rfl rfl (Nat.le_of_ble_eq_true rfl) dX6_takes_45 ⟨Nat.zero_le _, Nat.zero_le _⟩) hS (fun H locs hP hS => ?_)
        refine lv_iconst (v := 1) C.1 C.2.1 dX6_takes_48 (by decide) ?_
        cases hf
        exact krz C hP hS bz1 dX6_takes_49
  · have hf := (if_pos c3).symm.trans hf
    refine lv_iconst (v := 0) C.1 C.2.1 dX6_takes_28 (by decide) ?_
    cases hf
    exact krz C hP hS bz0 dX6_takes_29
set_option maxHeartbeats 4000000 in
set_option maxRecDepth 100000 in
theorem c_X6_takes (w : WT) (l : Launch) (hw : WOK w) {a1 : Int32} {M : Mem} {L : Lng} {out : Int32 × Mem} (hf : f_X6_takes a1 M = some out) : Met l yX6_takes (Cond.code yX6_takes cX6_takes 2 (some .boolean) :: BG) ({ frames := 2, cells := 0, slots := 0, locals := 41 } : Room) (PRE w [.ref (wAd w 48), .int a1] M L) (QI w out.1 out.2 L) 0 0 (wA w) := by
  refine kEnt hw (by decide +kernel) rfl (Nat.le_of_ble_eq_true rfl) ?_
  intro p e s m args below meth c C ls hl hP
  have hS : va_S (wA w) s.heap s.heap [] := va_S.rf
  have hl : lv_has ls 2 [(0, .ref (wAd w 48)), (1, .int a1)] := hl
  unfold f_X6_takes at hf
  refine lv_iload_n C.1 C.2.1 dX6_takes_0 rfl (lv_at hl 1 rfl) ?_
  refine lv_bipush (v := 48) C.1 C.2.1 dX6_takes_1 (by decide) ?_
  refine lv_icmp_lt (tgt := 21) C.1 C.2.1 dX6_takes_3 (by decide) (fun c1 => ?_) (fun c1 => ?_)
  · have hf := (if_pos c1).symm.trans hf
    exact w_X6_takes_j21 C hf _ _ _ hP hS hl
  · have hf := (if_neg c1).symm.trans hf
    refine lv_iload_n C.1 C.2.1 dX6_takes_6 rfl (lv_at hl 1 rfl) ?_
    refine lv_bipush (v := 57) C.1 C.2.1 dX6_takes_7 (by decide) ?_
    refine lv_icmp_gt (tgt := 21) C.1 C.2.1 dX6_takes_9 (by decide) (fun c13 => ?_) (fun c13 => ?_)
    · have hf := (if_pos c13).symm.trans hf
      exact w_X6_takes_j21 C hf _ _ _ hP hS hl
    · have hf := (if_neg c13).symm.trans hf
      refine lv_aload_n C.1 C.2.1 dX6_takes_12 rfl (lv_at hl 0 rfl) ?_
      refine lv_iload_n C.1 C.2.1 dX6_takes_13 rfl (lv_at hl 1 rfl) ?_
      refine lv_bipush (v := 48) C.1 C.2.1 dX6_takes_14 (by decide) ?_
      refine lv_isub C.1 C.2.1 dX6_takes_16 ?_
      obtain ⟨r14, hr14, hf⟩ := ob hf
      refine kci (kV (As := [.int (a1 - 48)]) (rest := []) C hl.1 hP hS (c_X6_takesDigit w l C.2.2.2.2.2.2.2.2 (L := L) hr14) (gV q327 q329 qp3 q4 q330) hd_X6_takesDigit (lt_Text h0_Text) (ob_Text h0_Text w L _) rfl ⟨rfl, rfl⟩ ⟨Nat.le_of_ble_eq_true rfl, Nat.le_of_ble_eq_true rfl⟩ rfl rfl (Nat.le_of_ble_eq_true rfl) dX6_takes_17 ⟨Nat.zero_le _, Nat.zero_le _⟩) hS (fun H locs hP hS => ?_)
      obtain ⟨x15, hx15, hf⟩ := ob hf
      cases hf
      exact krz C hP hS hx15 dX6_takes_20
theorem dX6_read_0 : decode cX6_read 0 = .ok (.aload_n 0, 1) := by decide +kernel
theorem dX6_read_1 : decode cX6_read 1 = .ok (.iconst 0, 1) := by decide +kernel
theorem dX6_read_2 : decode cX6_read 2 = .ok (.putfield 31, 3) := by decide +kernel
theorem dX6_read_5 : decode cX6_read 5 = .ok (.aload_n 0, 1) := by decide +kernel
theorem dX6_read_6 : decode cX6_read 6 = .ok (.invokevirtual 34, 3) := by decide +kernel
theorem dX6_read_9 : decode cX6_read 9 = .ok (.iconst 0, 1) := by decide +kernel
theorem dX6_read_10 : decode cX6_read 10 = .ok (.istore_n 1, 1) := by decide +kernel
theorem dX6_read_11 : decode cX6_read 11 = .ok (.iload_n 1, 1) := by decide +kernel
theorem dX6_read_12 : decode cX6_read 12 = .ok (.aload_n 0, 1) := by decide +kernel
theorem dX6_read_13 : decode cX6_read 13 = .ok (.getfield 27, 3) := by decide +kernel
theorem dX6_read_16 : decode cX6_read 16 = .ok (.if_icmp .ge 22, 3) := by decide +kernel
theorem dX6_read_19 : decode cX6_read 19 = .ok (.aload_n 0, 1) := by decide +kernel
theorem dX6_read_20 : decode cX6_read 20 = .ok (.aload_n 0, 1) := by decide +kernel
theorem dX6_read_21 : decode cX6_read 21 = .ok (.getfield 9, 3) := by decide +kernel
theorem dX6_read_24 : decode cX6_read 24 = .ok (.iload_n 1, 1) := by decide +kernel
theorem dX6_read_25 : decode cX6_read 25 = .ok (.iaload, 1) := by decide +kernel
theorem dX6_read_26 : decode cX6_read 26 = .ok (.invokevirtual 37, 3) := by decide +kernel
theorem dX6_read_29 : decode cX6_read 29 = .ok (.ifCond .eq 9, 3) := by decide +kernel
theorem dX6_read_32 : decode cX6_read 32 = .ok (.iinc 1 1, 3) := by decide +kernel
theorem dX6_read_35 : decode cX6_read 35 = .ok (.goto (-24), 3) := by decide +kernel
theorem dX6_read_38 : decode cX6_read 38 = .ok (.iload_n 1, 1) := by decide +kernel
theorem dX6_read_39 : decode cX6_read 39 = .ok (.ireturn, 1) := by decide +kernel
set_option maxHeartbeats 4000000 in
set_option maxRecDepth 100000 in
theorem w_X6_read_l11 {w : WT} {l : Launch} {p : Program} {e : Env} {s : State} {m : MethodId} {args : Array Value} {below : List Frame} {meth : Method} {c : Code} (C : KC w p s m args meth c cX6_read 2 RX6 (some .int)) {L : Lng} {Q : State → Prop} (z : Int32 × Mem) (o : (Int32 × Mem) ⊕ (Int32 × Mem)) (hf : f_X6_read_l11 z = some o) (hA : ∀ z, o = .inl z → AtL w p l e ({ frames := 3, cells := 0, slots := 0, locals := 62 } : Room) s m args below meth c Q 2 11 z.2 L [(0, .ref (wAd w 48)), (1, .int z.1)] []) (hE : ∀ y, o = .inr y → AtL w p l e ({ frames := 3, cells := 0, slots := 0, locals := 62 } : Room) s m args below meth c Q 2 38 y.2 L [(1, .int y.1)] []) : AtL w p l e ({ frames := 3, cells := 0, slots := 0, locals := 62 } : Room) s m args below meth c Q 2 11 z.2 L [(0, .ref (wAd w 48)), (1, .int z.1)] [] := by
  intro H locs ls hP hS hl
  unfold f_X6_read_l11 at hf
  refine lv_iload_n C.1 C.2.1 dX6_read_11 rfl (lv_at hl 1 rfl) ?_
  refine lv_aload_n C.1 C.2.1 dX6_read_12 rfl (lv_at hl 0 rfl) ?_
  refine k_get (v := .int (z.2 48 1)) C hP (lt_Text h0_Text) (ob_Text h0_Text w L _) rfl iX6 1 (by decide) q102 rfl dX6_read_13 ?_
  refine lv_icmp_ge (tgt := 38) C.1 C.2.1 dX6_read_16 (by decide) (fun c3 => ?_) (fun c3 => ?_)
  · have hf := (if_pos c3).symm.trans hf
    cases hf
    exact hE _ rfl _ _ _ hP hS (lv_sub hl [1] rfl)
  · have hf := (if_neg c3).symm.trans hf
    refine lv_aload_n C.1 C.2.1 dX6_read_19 rfl (lv_at hl 0 rfl) ?_
    refine lv_aload_n C.1 C.2.1 dX6_read_20 rfl (lv_at hl 0 rfl) ?_
    refine k_get (v := .ref (wAd w 49)) C hP (lt_Text h0_Text) (ob_Text h0_Text w L _) rfl iX6 0 (by decide) q100 rfl dX6_read_21 ?_
    refine lv_iload_n C.1 C.2.1 dX6_read_24 rfl (lv_at hl 1 rfl) ?_
    obtain ⟨x4, hx4, hf⟩ := ob hf
    refine k_iald C hP (la_Text_codes h0_Text) (ar_Text_codes h0_Text w L _) hx4 dX6_read_25 ?_
    obtain ⟨r5, hr5, hf⟩ := ob hf
    refine kci (kV (As := [.int x4]) (rest := []) C hl.1 hP hS (c_X6_takes w l C.2.2.2.2.2.2.2.2 (L := L) hr5) (gV q323 q325 qp2 q4 q326) hd_X6_takes (lt_Text h0_Text) (ob_Text h0_Text w L _) rfl ⟨rfl, rfl⟩ ⟨Nat.le_of_ble_eq_true rfl, Nat.le_of_ble_eq_true rfl⟩ rfl rfl (Nat.le_of_ble_eq_true rfl) dX6_read_26 ⟨Nat.zero_le _, Nat.zero_le _⟩) hS (fun H locs hP hS => ?_)
    refine lv_if_eq (tgt := 38) C.1 C.2.1 dX6_read_29 (by decide) (fun c6 => ?_) (fun c6 => ?_)
    · have hf := (if_pos c6).symm.trans hf
      cases hf
      exact hE _ rfl _ _ _ hP hS (lv_sub hl [1] rfl)
    · have hf := (if_neg c6).symm.trans hf
      refine lv_iinc (v := (z.1 + 1)) (lv' := [(1, .int (z.1 + 1)), (0, .ref (wAd w 48))]) C.1 C.2.1 dX6_read_32 hl (k := 1) rfl rfl (by decide) rfl (fun ls hl => ?_)
      refine lv_goto (tgt := 11) C.1 C.2.1 dX6_read_35 (by decide) ?_
      cases hf
      exact hA _ rfl _ _ _ hP hS (lv_sub hl [1, 0] rfl)
set_option maxHeartbeats 4000000 in
set_option maxRecDepth 100000 in
theorem c_X6_read (w : WT) (l : Launch) (hw : WOK w) {M : Mem} {L : Lng} {out : Int32 × Mem} (hf : f_X6_read M = some out) : Met l yX6_read (Cond.code yX6_read cX6_read 2 (some .int) :: BG) ({ frames := 3, cells := 0, slots := 0, locals := 62 } : Room) (PRE w [.ref (wAd w 48)] M L) (QI w out.1 out.2 L) 0 0 (wA w) := by
  refine kEnt hw (by decide +kernel) rfl (Nat.le_of_ble_eq_true rfl) ?_
  intro p e s m args below meth c C ls hl hP
  have hS : va_S (wA w) s.heap s.heap [] := va_S.rf
  have hl : lv_has ls 2 [(0, .ref (wAd w 48))] := hl
  unfold f_X6_read at hf
  refine lv_aload_n C.1 C.2.1 dX6_read_0 rfl (lv_at hl 0 rfl) ?_
  refine lv_iconst (v := 0) C.1 C.2.1 dX6_read_1 (by decide) ?_
  obtain ⟨M1, hM1, hf⟩ := ob hf
  refine k_puti C hP hS (lt_Text h0_Text) (fun row => ob_Text h0_Text w L row) rfl iX6 tyX6 tyX6_ok nmX6 5 (by decide) q110 rfl rfl (Nat.le_of_ble_eq_true rfl) rfl hM1 dX6_read_2 (fun H locs hP hS => ?_)
  refine lv_aload_n C.1 C.2.1 dX6_read_5 rfl (lv_at hl 0 rfl) ?_
  obtain ⟨r2, hr2, hf⟩ := ob hf
  refine kcv (kV (As := []) (rest := []) C hl.1 hP hS (c_X6_beginPart w l C.2.2.2.2.2.2.2.2 (L := L) hr2) (gV q315 q317 qp0 q4 q318) hd_X6_beginPart (lt_Text h0_Text) (ob_Text h0_Text w L _) rfl ⟨rfl, rfl⟩ ⟨Nat.le_of_ble_eq_true rfl, Nat.le_of_ble_eq_true rfl⟩ rfl rfl (Nat.le_of_ble_eq_true rfl) dX6_read_6 ⟨Nat.zero_le _, Nat.zero_le _⟩) hS (fun H locs hP hS => ?_)
  refine lv_iconst (v := 0) C.1 C.2.1 dX6_read_9 (by decide) ?_
  refine lv_istore_n (lv' := [(1, .int 0), (0, .ref (wAd w 48))]) C.1 C.2.1 dX6_read_10 rfl hl (by decide) rfl (fun ls hl => ?_)
  obtain ⟨o7, ho7, hf⟩ := ob hf
  refine loop_at (w_X6_read_l11 C) FU _ o7 ho7 ?_ _ _ _ hP hS (lv_sub hl [1, 0] rfl)
  intro H locs ls hP hS hl
  refine lv_iload_n C.1 C.2.1 dX6_read_38 rfl (lv_at hl 0 rfl) ?_
  cases hf
  exact kri C hP hS dX6_read_39
theorem dX6_isWhole_0 : decode cX6_isWhole 0 = .ok (.aload_n 0, 1) := by decide +kernel
theorem dX6_isWhole_1 : decode cX6_isWhole 1 = .ok (.invokevirtual 41, 3) := by decide +kernel
theorem dX6_isWhole_4 : decode cX6_isWhole 4 = .ok (.aload_n 0, 1) := by decide +kernel
theorem dX6_isWhole_5 : decode cX6_isWhole 5 = .ok (.getfield 27, 3) := by decide +kernel
theorem dX6_isWhole_8 : decode cX6_isWhole 8 = .ok (.if_icmp .lt 10, 3) := by decide +kernel
theorem dX6_isWhole_11 : decode cX6_isWhole 11 = .ok (.aload_n 0, 1) := by decide +kernel
theorem dX6_isWhole_12 : decode cX6_isWhole 12 = .ok (.invokevirtual 45, 3) := by decide +kernel
theorem dX6_isWhole_15 : decode cX6_isWhole 15 = .ok (.ifCond .ne 5, 3) := by decide +kernel
theorem dX6_isWhole_18 : decode cX6_isWhole 18 = .ok (.iconst 0, 1) := by decide +kernel
theorem dX6_isWhole_19 : decode cX6_isWhole 19 = .ok (.ireturn, 1) := by decide +kernel
theorem dX6_isWhole_20 : decode cX6_isWhole 20 = .ok (.aload_n 0, 1) := by decide +kernel
theorem dX6_isWhole_21 : decode cX6_isWhole 21 = .ok (.invokevirtual 49, 3) := by decide +kernel
theorem dX6_isWhole_24 : decode cX6_isWhole 24 = .ok (.iconst 1, 1) := by decide +kernel
theorem dX6_isWhole_25 : decode cX6_isWhole 25 = .ok (.ireturn, 1) := by decide +kernel
set_option maxHeartbeats 4000000 in
set_option maxRecDepth 100000 in
theorem c_X6_isWhole (w : WT) (l : Launch) (hw : WOK w) {M : Mem} {L : Lng} {out : Int32 × Mem} (hf : f_X6_isWhole M = some out) : Met l yX6_isWhole (Cond.code yX6_isWhole cX6_isWhole 1 (some .boolean) :: BG) ({ frames := 4, cells := 0, slots := 0, locals := 83 } : Room) (PRE w [.ref (wAd w 48)] M L) (QI w out.1 out.2 L) 0 0 (wA w) := by
  refine kEnt hw (by decide +kernel) rfl (Nat.le_of_ble_eq_true rfl) ?_
  intro p e s m args below meth c C ls hl hP
  have hS : va_S (wA w) s.heap s.heap [] := va_S.rf
  have hl : lv_has ls 1 [(0, .ref (wAd w 48))] := hl
  unfold f_X6_isWhole at hf
  refine lv_aload_n C.1 C.2.1 dX6_isWhole_0 rfl (lv_at hl 0 rfl) ?_
  obtain ⟨r1, hr1, hf⟩ := ob hf
  refine kci (kV (As := []) (rest := []) C hl.1 hP hS (c_X6_read w l C.2.2.2.2.2.2.2.2 (L := L) hr1) (gV q763 q312 q313 q4 q314) hd_X6_read (lt_Text h0_Text) (ob_Text h0_Text w L _) rfl ⟨rfl, rfl⟩ ⟨Nat.le_of_ble_eq_true rfl, Nat.le_of_ble_eq_true rfl⟩ rfl rfl (Nat.le_of_ble_eq_true rfl) dX6_isWhole_1 ⟨Nat.zero_le _, Nat.zero_le _⟩) hS (fun H locs hP hS => ?_)
  refine lv_aload_n C.1 C.2.1 dX6_isWhole_4 rfl (lv_at hl 0 rfl) ?_
  refine k_get (v := .int (r1.2 48 1)) C hP (lt_Text h0_Text) (ob_Text h0_Text w L _) rfl iX6 1 (by decide) q102 rfl dX6_isWhole_5 ?_
  refine lv_icmp_lt (tgt := 18) C.1 C.2.1 dX6_isWhole_8 (by decide) (fun c2 => ?_) (fun c2 => ?_)
  · have hf := (if_pos c2).symm.trans hf
    refine lv_iconst (v := 0) C.1 C.2.1 dX6_isWhole_18 (by decide) ?_
    cases hf
    exact krz C hP hS bz0 dX6_isWhole_19
  · have hf := (if_neg c2).symm.trans hf
    refine lv_aload_n C.1 C.2.1 dX6_isWhole_11 rfl (lv_at hl 0 rfl) ?_
    obtain ⟨r3, hr3, hf⟩ := ob hf
    refine kci (kV (As := []) (rest := []) C hl.1 hP hS (c_X6_numberIsWhole w l C.2.2.2.2.2.2.2.2 (L := L) hr3) (gV q335 q337 qp4 q4 q338) hd_X6_numberIsWhole (lt_Text h0_Text) (ob_Text h0_Text w L _) rfl ⟨rfl, rfl⟩ ⟨Nat.le_of_ble_eq_true rfl, Nat.le_of_ble_eq_true rfl⟩ rfl rfl (Nat.le_of_ble_eq_true rfl) dX6_isWhole_12 ⟨Nat.zero_le _, Nat.zero_le _⟩) hS (fun H locs hP hS => ?_)
    refine lv_if_ne (tgt := 20) C.1 C.2.1 dX6_isWhole_15 (by decide) (fun c4 => ?_) (fun c4 => ?_)
    · have hf := (if_neg c4).symm.trans hf
      refine lv_aload_n C.1 C.2.1 dX6_isWhole_20 rfl (lv_at hl 0 rfl) ?_
      obtain ⟨r5, hr5, hf⟩ := ob hf
      refine kcv (kV (As := []) (rest := []) C hl.1 hP hS (c_X6_endPart w l C.2.2.2.2.2.2.2.2 (L := L) hr5) (gV q339 q341 qp5 q4 q342) hd_X6_endPart (lt_Text h0_Text) (ob_Text h0_Text w L _) rfl ⟨rfl, rfl⟩ ⟨Nat.le_of_ble_eq_true rfl, Nat.le_of_ble_eq_true rfl⟩ rfl rfl (Nat.le_of_ble_eq_true rfl) dX6_isWhole_21 ⟨Nat.zero_le _, Nat.zero_le _⟩) hS (fun H locs hP hS => ?_)
      refine lv_iconst (v := 1) C.1 C.2.1 dX6_isWhole_24 (by decide) ?_
      cases hf
      exact krz C hP hS bz1 dX6_isWhole_25
    · have hf := (if_pos c4).symm.trans hf
      refine lv_iconst (v := 0) C.1 C.2.1 dX6_isWhole_18 (by decide) ?_
      cases hf
      exact krz C hP hS bz0 dX6_isWhole_19
