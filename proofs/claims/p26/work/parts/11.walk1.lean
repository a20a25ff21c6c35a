set_option maxHeartbeats 4000000 in
set_option maxRecDepth 100000 in
theorem w_X2_levelOfPercent_l11 {w : WT} {l : Launch} {p : Program} {e : Env} {s : State} {m : MethodId} {args : Array Value} {below : List Frame} {meth : Method} {c : Code} (C : KC w p s m args meth c cX2_levelOfPercent 4 RX2 (some .int)) {v1 : Int32} {v2 : Int32} {M : Mem} {L : Lng} {out : Int32} (z : Int32) (o : (Int32) ⊕ ((Unit) ⊕ (Int32))) (hf : f_X2_levelOfPercent_l11 v1 v2 M z = some o) (hA : ∀ z, o = .inl z → AtL w p l e ({ frames := 0, cells := 0, slots := 0, locals := 0 } : Room) s m args below meth c (MQ below (QI w out M L) args s 0 0 (wA w)) 4 11 M L [(0, .ref (wAd w 88)), (1, .int v1), (2, .int v2), (3, .int z)] []) (hE : ∀ y, o = .inr y → Sum.elim (fun y => AtL w p l e ({ frames := 0, cells := 0, slots := 0, locals := 0 } : Room) s m args below meth c (MQ below (QI w out M L) args s 0 0 (wA w)) 4 38 M L [] []) (fun y => y = out) y) : AtL w p l e ({ frames := 0, cells := 0, slots := 0, locals := 0 } : Room) s m args below meth c (MQ below (QI w out M L) args s 0 0 (wA w)) 4 11 M L [(0, .ref (wAd w 88)), (1, .int v1), (2, .int v2), (3, .int z)] [] := by
  intro H locs ls hP hS hl
  unfold f_X2_levelOfPercent_l11 at hf
  refine lv_iload_n C.1 C.2.1 dX2_levelOfPercent_11 rfl (lv_at hl 3 rfl) ?_
  refine lv_if_le (tgt := 38) C.1 C.2.1 dX2_levelOfPercent_12 (by decide) (fun c2 => ?_) (fun c2 => ?_)
  · have hf := (if_pos c2).symm.trans hf
    cases hf
    exact hE _ rfl _ _ _ hP hS (lv_sub hl [] rfl)
  · have hf := (if_neg c2).symm.trans hf
    refine lv_aload_n C.1 C.2.1 dX2_levelOfPercent_15 rfl (lv_at hl 0 rfl) ?_
    refine k_get (v := .ref (wAd w 89)) C hP (C9 C (lt_LevelCounts h0_LevelCounts)) (ob_LevelCounts h0_LevelCounts w L _) rfl iX2 0 (by decide) q268 rfl dX2_levelOfPercent_16 ?_
    refine lv_iload_n C.1 C.2.1 dX2_levelOfPercent_19 rfl (lv_at hl 3 rfl) ?_
    obtain ⟨x3, hx3, hf⟩ := ob hf
    refine k_iald C hP (C9 C (la_LevelCounts_reached h0_LevelCounts)) (ar_LevelCounts_reached h0_LevelCounts w L _) hx3 dX2_levelOfPercent_20 ?_
    refine lv_bipush (v := 100) C.1 C.2.1 dX2_levelOfPercent_21 (by decide) ?_
    refine lv_imul C.1 C.2.1 dX2_levelOfPercent_23 ?_
    refine lv_iload_n C.1 C.2.1 dX2_levelOfPercent_24 rfl (lv_at hl 1 rfl) ?_
    refine lv_iload_n C.1 C.2.1 dX2_levelOfPercent_25 rfl (lv_at hl 2 rfl) ?_
    refine lv_imul C.1 C.2.1 dX2_levelOfPercent_26 ?_
    refine lv_icmp_lt (tgt := 32) C.1 C.2.1 dX2_levelOfPercent_27 (by decide) (fun c4 => ?_) (fun c4 => ?_)
    · have hf := (if_pos c4).symm.trans hf
      refine lv_iinc (v := (z + (-1))) (lv' := [(3, .int (z + (-1))), (0, .ref (wAd w 88)), (1, .int v1), (2, .int v2)]) C.1 C.2.1 dX2_levelOfPercent_32 hl (k := 3) rfl rfl (by decide) rfl (fun ls hl => ?_)
      refine lv_goto (tgt := 11) C.1 C.2.1 dX2_levelOfPercent_35 (by decide) ?_
      cases hf
      exact hA _ rfl _ _ _ hP hS (lv_sub hl [1, 2, 3, 0] rfl)
    · have hf := (if_neg c4).symm.trans hf
      refine lv_iload_n C.1 C.2.1 dX2_levelOfPercent_30 rfl (lv_at hl 3 rfl) ?_
      cases hf
      cases hE _ rfl
      exact kri C hP hS dX2_levelOfPercent_31
set_option maxHeartbeats 4000000 in
set_option maxRecDepth 100000 in
theorem c_X2_levelOfPercent (w : WT) (l : Launch) (hw : WOK w) {a1 : Int32} {a2 : Int32} {M : Mem} {L : Lng} {out : Int32} (hf : f_X2_levelOfPercent a1 a2 M = some out) : Met l yX2_levelOfPercent (Cond.code yX2_levelOfPercent cX2_levelOfPercent 4 (some .int) :: BG) ({ frames := 0, cells := 0, slots := 0, locals := 0 } : Room) (PRE w [.ref (wAd w 88), .int a1, .int a2] M L) (QI w out M L) 0 0 (wA w) := by
  refine kEnt hw (by decide +kernel) rfl (Nat.le_of_ble_eq_true rfl) ?_
  intro p e s m args below meth c C ls hl hP
  have hS : va_S (wA w) s.heap s.heap [] := va_S.rf
  have hl : lv_has ls 4 [(0, .ref (wAd w 88)), (1, .int a1), (2, .int a2)] := hl
  unfold f_X2_levelOfPercent at hf
  refine lv_iload_n C.1 C.2.1 dX2_levelOfPercent_0 rfl (lv_at hl 2 rfl) ?_
  refine lv_iconst (v := 1) C.1 C.2.1 dX2_levelOfPercent_1 (by decide) ?_
  refine lv_icmp_ge (tgt := 7) C.1 C.2.1 dX2_levelOfPercent_2 (by decide) (fun c1 => ?_) (fun c1 => ?_)
  · have hf := (if_pos c1).symm.trans hf
    refine lv_sipush (v := 140) C.1 C.2.1 dX2_levelOfPercent_7 (by decide) ?_
    refine lv_istore_n (lv' := [(3, .int 140), (0, .ref (wAd w 88)), (1, .int a1), (2, .int a2)]) C.1 C.2.1 dX2_levelOfPercent_10 rfl hl (by decide) rfl (fun ls hl => ?_)
    obtain ⟨o5, ho5, hf⟩ := ob hf
    refine loop_at (w_X2_levelOfPercent_l11 C (out := out)) FU _ o5 ho5 ?_ _ _ _ hP hS (lv_sub hl [1, 2, 3, 0] rfl)
    rcases o5 with o5 | o5
    · simp only [Sum.elim_inl] at hf
      intro H locs ls hP hS hl
      refine lv_iconst (v := 0) C.1 C.2.1 dX2_levelOfPercent_38 (by decide) ?_
      cases hf
      exact kri C hP hS dX2_levelOfPercent_39
    · simp only [Sum.elim_inr] at hf
      exact Option.some.inj hf
  · have hf := (if_neg c1).symm.trans hf
    refine lv_iconst (v := (-1)) C.1 C.2.1 dX2_levelOfPercent_5 (by decide) ?_
    cases hf
    exact kri C hP hS dX2_levelOfPercent_6
theorem dX3_putInOrder_0 : decode cX3_putInOrder 0 = .ok (.iconst 0, 1) := by decide +kernel
theorem dX3_putInOrder_1 : decode cX3_putInOrder 1 = .ok (.istore_n 2, 1) := by decide +kernel
theorem dX3_putInOrder_2 : decode cX3_putInOrder 2 = .ok (.iload_n 2, 1) := by decide +kernel
theorem dX3_putInOrder_3 : decode cX3_putInOrder 3 = .ok (.aload_n 0, 1) := by decide +kernel
theorem dX3_putInOrder_4 : decode cX3_putInOrder 4 = .ok (.getfield 27, 3) := by decide +kernel
theorem dX3_putInOrder_7 : decode cX3_putInOrder 7 = .ok (.if_icmp .ge 72, 3) := by decide +kernel
theorem dX3_putInOrder_10 : decode cX3_putInOrder 10 = .ok (.aload_n 1, 1) := by decide +kernel
theorem dX3_putInOrder_11 : decode cX3_putInOrder 11 = .ok (.getfield 40, 3) := by decide +kernel
theorem dX3_putInOrder_14 : decode cX3_putInOrder 14 = .ok (.iload_n 2, 1) := by decide +kernel
theorem dX3_putInOrder_15 : decode cX3_putInOrder 15 = .ok (.iaload, 1) := by decide +kernel
theorem dX3_putInOrder_16 : decode cX3_putInOrder 16 = .ok (.istore_n 3, 1) := by decide +kernel
theorem dX3_putInOrder_17 : decode cX3_putInOrder 17 = .ok (.iload_n 2, 1) := by decide +kernel
theorem dX3_putInOrder_18 : decode cX3_putInOrder 18 = .ok (.istore 4, 2) := by decide +kernel
theorem dX3_putInOrder_20 : decode cX3_putInOrder 20 = .ok (.iload 4, 2) := by decide +kernel
theorem dX3_putInOrder_22 : decode cX3_putInOrder 22 = .ok (.ifCond .le 43, 3) := by decide +kernel
theorem dX3_putInOrder_25 : decode cX3_putInOrder 25 = .ok (.aload_n 1, 1) := by decide +kernel
theorem dX3_putInOrder_26 : decode cX3_putInOrder 26 = .ok (.getfield 40, 3) := by decide +kernel
theorem dX3_putInOrder_29 : decode cX3_putInOrder 29 = .ok (.aload_n 0, 1) := by decide +kernel
theorem dX3_putInOrder_30 : decode cX3_putInOrder 30 = .ok (.getfield 18, 3) := by decide +kernel
theorem dX3_putInOrder_33 : decode cX3_putInOrder 33 = .ok (.iload 4, 2) := by decide +kernel
theorem dX3_putInOrder_35 : decode cX3_putInOrder 35 = .ok (.iconst 1, 1) := by decide +kernel
theorem dX3_putInOrder_36 : decode cX3_putInOrder 36 = .ok (.isub, 1) := by decide +kernel
theorem dX3_putInOrder_37 : decode cX3_putInOrder 37 = .ok (.iaload, 1) := by decide +kernel
theorem dX3_putInOrder_38 : decode cX3_putInOrder 38 = .ok (.iaload, 1) := by decide +kernel
theorem dX3_putInOrder_39 : decode cX3_putInOrder 39 = .ok (.iload_n 3, 1) := by decide +kernel
theorem dX3_putInOrder_40 : decode cX3_putInOrder 40 = .ok (.if_icmp .le 25, 3) := by decide +kernel
theorem dX3_putInOrder_43 : decode cX3_putInOrder 43 = .ok (.aload_n 0, 1) := by decide +kernel
theorem dX3_putInOrder_44 : decode cX3_putInOrder 44 = .ok (.getfield 18, 3) := by decide +kernel
theorem dX3_putInOrder_47 : decode cX3_putInOrder 47 = .ok (.iload 4, 2) := by decide +kernel
theorem dX3_putInOrder_49 : decode cX3_putInOrder 49 = .ok (.aload_n 0, 1) := by decide +kernel
theorem dX3_putInOrder_50 : decode cX3_putInOrder 50 = .ok (.getfield 18, 3) := by decide +kernel
theorem dX3_putInOrder_53 : decode cX3_putInOrder 53 = .ok (.iload 4, 2) := by decide +kernel
theorem dX3_putInOrder_55 : decode cX3_putInOrder 55 = .ok (.iconst 1, 1) := by decide +kernel
theorem dX3_putInOrder_56 : decode cX3_putInOrder 56 = .ok (.isub, 1) := by decide +kernel
theorem dX3_putInOrder_57 : decode cX3_putInOrder 57 = .ok (.iaload, 1) := by decide +kernel
theorem dX3_putInOrder_58 : decode cX3_putInOrder 58 = .ok (.iastore, 1) := by decide +kernel
theorem dX3_putInOrder_59 : decode cX3_putInOrder 59 = .ok (.iinc 4 (-1), 3) := by decide +kernel
theorem dX3_putInOrder_62 : decode cX3_putInOrder 62 = .ok (.goto (-42), 3) := by decide +kernel
theorem dX3_putInOrder_65 : decode cX3_putInOrder 65 = .ok (.aload_n 0, 1) := by decide +kernel
theorem dX3_putInOrder_66 : decode cX3_putInOrder 66 = .ok (.getfield 18, 3) := by decide +kernel
theorem dX3_putInOrder_69 : decode cX3_putInOrder 69 = .ok (.iload 4, 2) := by decide +kernel
theorem dX3_putInOrder_71 : decode cX3_putInOrder 71 = .ok (.iload_n 2, 1) := by decide +kernel
theorem dX3_putInOrder_72 : decode cX3_putInOrder 72 = .ok (.iastore, 1) := by decide +kernel
theorem dX3_putInOrder_73 : decode cX3_putInOrder 73 = .ok (.iinc 2 1, 3) := by decide +kernel
theorem dX3_putInOrder_76 : decode cX3_putInOrder 76 = .ok (.goto (-74), 3) := by decide +kernel
theorem dX3_putInOrder_79 : decode cX3_putInOrder 79 = .ok (.return_, 1) := by decide +kernel
set_option maxHeartbeats 4000000 in
set_option maxRecDepth 100000 in
theorem w_X3_putInOrder_l20 {b0 : Nat} {b1 : Nat} {w : WT} {l : Launch} {p : Program} {e : Env} {s : State} {m : MethodId} {args : Array Value} {below : List Frame} {meth : Method} {c : Code} (C : KC w p s m args meth c cX3_putInOrder 5 RX3 none) (hb0 : isMt b0) (hb1 : isSt b1) {v2 : Int32} {v3 : Int32} {L : Lng} {Q : State → Prop} (z : Int32 × Mem) (o : (Int32 × Mem) ⊕ (Int32 × Mem)) (hf : f_X3_putInOrder_l20 b0 b1 v2 v3 z = some o) (hA : ∀ z, o = .inl z → AtL w p l e ({ frames := 0, cells := 0, slots := 0, locals := 0 } : Room) s m args below meth c Q 5 20 z.2 L [(0, .ref (wAd w b0)), (1, .ref (wAd w b1)), (2, .int v2), (3, .int v3), (4, .int z.1)] []) (hE : ∀ y, o = .inr y → AtL w p l e ({ frames := 0, cells := 0, slots := 0, locals := 0 } : Room) s m args below meth c Q 5 65 y.2 L [(0, .ref (wAd w b0)), (1, .ref (wAd w b1)), (2, .int v2), (4, .int y.1)] []) : AtL w p l e ({ frames := 0, cells := 0, slots := 0, locals := 0 } : Room) s m args below meth c Q 5 20 z.2 L [(0, .ref (wAd w b0)), (1, .ref (wAd w b1)), (2, .int v2), (3, .int v3), (4, .int z.1)] [] := by
  intro H locs ls hP hS hl
  unfold f_X3_putInOrder_l20 at hf
  refine lv_iload C.1 C.2.1 dX3_putInOrder_20 (lv_at hl 4 rfl) ?_
  refine lv_if_le (tgt := 65) C.1 C.2.1 dX3_putInOrder_22 (by decide) (fun c3 => ?_) (fun c3 => ?_)
  · have hf := (if_pos c3).symm.trans hf
    cases hf
    exact hE _ rfl _ _ _ hP hS (lv_sub hl [0, 1, 2, 4] rfl)
  · have hf := (if_neg c3).symm.trans hf
    refine lv_aload_n C.1 C.2.1 dX3_putInOrder_25 rfl (lv_at hl 1 rfl) ?_
    refine k_get (v := .ref (wAd w (b1 + 4))) C hP (C9 C (lt_State hb1)) (ob_State hb1 w L _) rfl iX5 3 (by decide) q50 rfl dX3_putInOrder_26 ?_
    refine lv_aload_n C.1 C.2.1 dX3_putInOrder_29 rfl (lv_at hl 0 rfl) ?_
    refine k_get (v := .ref (wAd w (b0 + 3))) C hP (C9 C (lt_Matches hb0)) (ob_Matches hb0 w L _) rfl iX3 2 (by decide) q229 rfl dX3_putInOrder_30 ?_
    refine lv_iload C.1 C.2.1 dX3_putInOrder_33 (lv_at hl 4 rfl) ?_
    refine lv_iconst (v := 1) C.1 C.2.1 dX3_putInOrder_35 (by decide) ?_
    refine lv_isub C.1 C.2.1 dX3_putInOrder_36 ?_
    obtain ⟨x4, hx4, hf⟩ := ob hf
    refine k_iald C hP (C9 C (la_Matches_order hb0)) (ar_Matches_order hb0 w L _) hx4 dX3_putInOrder_37 ?_
    obtain ⟨x5, hx5, hf⟩ := ob hf
    refine k_iald C hP (C9 C (la_State_complaintMinutes hb1)) (ar_State_complaintMinutes hb1 w L _) hx5 dX3_putInOrder_38 ?_
    refine lv_iload_n C.1 C.2.1 dX3_putInOrder_39 rfl (lv_at hl 3 rfl) ?_
    refine lv_icmp_le (tgt := 65) C.1 C.2.1 dX3_putInOrder_40 (by decide) (fun c6 => ?_) (fun c6 => ?_)
    · have hf := (if_pos c6).symm.trans hf
      cases hf
      exact hE _ rfl _ _ _ hP hS (lv_sub hl [0, 1, 2, 4] rfl)
    · have hf := (if_neg c6).symm.trans hf
      refine lv_aload_n C.1 C.2.1 dX3_putInOrder_43 rfl (lv_at hl 0 rfl) ?_
      refine k_get (v := .ref (wAd w (b0 + 3))) C hP (C9 C (lt_Matches hb0)) (ob_Matches hb0 w L _) rfl iX3 2 (by decide) q229 rfl dX3_putInOrder_44 ?_
      refine lv_iload C.1 C.2.1 dX3_putInOrder_47 (lv_at hl 4 rfl) ?_
      refine lv_aload_n C.1 C.2.1 dX3_putInOrder_49 rfl (lv_at hl 0 rfl) ?_
      refine k_get (v := .ref (wAd w (b0 + 3))) C hP (C9 C (lt_Matches hb0)) (ob_Matches hb0 w L _) rfl iX3 2 (by decide) q229 rfl dX3_putInOrder_50 ?_
      refine lv_iload C.1 C.2.1 dX3_putInOrder_53 (lv_at hl 4 rfl) ?_
      refine lv_iconst (v := 1) C.1 C.2.1 dX3_putInOrder_55 (by decide) ?_
      refine lv_isub C.1 C.2.1 dX3_putInOrder_56 ?_
      obtain ⟨x7, hx7, hf⟩ := ob hf
      refine k_iald C hP (C9 C (la_Matches_order hb0)) (ar_Matches_order hb0 w L _) hx7 dX3_putInOrder_57 ?_
      obtain ⟨M8, hM8, hf⟩ := ob hf
      refine k_iast C hP hS (C9 C (la_Matches_order hb0)) (ar_Matches_order hb0 w L) hM8 dX3_putInOrder_58 (fun H locs hP hS => ?_)
      refine lv_iinc (v := (z.1 + (-1))) (lv' := [(4, .int (z.1 + (-1))), (0, .ref (wAd w b0)), (1, .ref (wAd w b1)), (2, .int v2), (3, .int v3)]) C.1 C.2.1 dX3_putInOrder_59 hl (k := 4) rfl rfl (by decide) rfl (fun ls hl => ?_)
      refine lv_goto (tgt := 20) C.1 C.2.1 dX3_putInOrder_62 (by decide) ?_
      cases hf
      exact hA _ rfl _ _ _ hP hS (lv_sub hl [1, 2, 3, 4, 0] rfl)
set_option maxHeartbeats 4000000 in
set_option maxRecDepth 100000 in
theorem w_X3_putInOrder_j65 {b0 : Nat} {b1 : Nat} {w : WT} {l : Launch} {p : Program} {e : Env} {s : State} {m : MethodId} {args : Array Value} {below : List Frame} {meth : Method} {c : Code} (C : KC w p s m args meth c cX3_putInOrder 5 RX3 none) (hb0 : isMt b0) (hb1 : isSt b1) {v2 : Int32} {v4 : Int32} {M : Mem} {L : Lng} {Q : State → Prop} {o : (Int32 × Mem) ⊕ (Mem)} (hf : f_X3_putInOrder_j65 b0 b1 v2 v4 M = some o) (hA : ∀ z, o = .inl z → AtL w p l e ({ frames := 0, cells := 0, slots := 0, locals := 0 } : Room) s m args below meth c Q 5 2 z.2 L [(0, .ref (wAd w b0)), (1, .ref (wAd w b1)), (2, .int z.1)] []) (hE : ∀ y, o = .inr y → AtL w p l e ({ frames := 0, cells := 0, slots := 0, locals := 0 } : Room) s m args below meth c Q 5 79 y L [] []) : AtL w p l e ({ frames := 0, cells := 0, slots := 0, locals := 0 } : Room) s m args below meth c Q 5 65 M L [(0, .ref (wAd w b0)), (1, .ref (wAd w b1)), (2, .int v2), (4, .int v4)] [] := by
  intro H locs ls hP hS hl
  unfold f_X3_putInOrder_j65 at hf
  refine lv_aload_n C.1 C.2.1 dX3_putInOrder_65 rfl (lv_at hl 0 rfl) ?_
  refine k_get (v := .ref (wAd w (b0 + 3))) C hP (C9 C (lt_Matches hb0)) (ob_Matches hb0 w L _) rfl iX3 2 (by decide) q229 rfl dX3_putInOrder_66 ?_
  refine lv_iload C.1 C.2.1 dX3_putInOrder_69 (lv_at hl 3 rfl) ?_
  refine lv_iload_n C.1 C.2.1 dX3_putInOrder_71 rfl (lv_at hl 2 rfl) ?_
  obtain ⟨M10, hM10, hf⟩ := ob hf
  refine k_iast C hP hS (C9 C (la_Matches_order hb0)) (ar_Matches_order hb0 w L) hM10 dX3_putInOrder_72 (fun H locs hP hS => ?_)
  refine lv_iinc (v := (v2 + 1)) (lv' := [(2, .int (v2 + 1)), (0, .ref (wAd w b0)), (1, .ref (wAd w b1)), (4, .int v4)]) C.1 C.2.1 dX3_putInOrder_73 hl (k := 2) rfl rfl (by decide) rfl (fun ls hl => ?_)
  refine lv_goto (tgt := 2) C.1 C.2.1 dX3_putInOrder_76 (by decide) ?_
  cases hf
  exact hA _ rfl _ _ _ hP hS (lv_sub hl [1, 2, 0] rfl)
set_option maxHeartbeats 4000000 in
set_option maxRecDepth 100000 in
theorem w_X3_putInOrder_l2 {b0 : Nat} {b1 : Nat} {w : WT} {l : Launch} {p : Program} {e : Env} {s : State} {m : MethodId} {args : Array Value} {below : List Frame} {meth : Method} {c : Code} (C : KC w p s m args meth c cX3_putInOrder 5 RX3 none) (hb0 : isMt b0) (hb1 : isSt b1) {L : Lng} {Q : State → Prop} (z : Int32 × Mem) (o : (Int32 × Mem) ⊕ (Mem)) (hf : f_X3_putInOrder_l2 b0 b1 z = some o) (hA : ∀ z, o = .inl z → AtL w p l e ({ frames := 0, cells := 0, slots := 0, locals := 0 } : Room) s m args below meth c Q 5 2 z.2 L [(0, .ref (wAd w b0)), (1, .ref (wAd w b1)), (2, .int z.1)] []) (hE : ∀ y, o = .inr y → AtL w p l e ({ frames := 0, cells := 0, slots := 0, locals := 0 } : Room) s m args below meth c Q 5 79 y L [] []) : AtL w p l e ({ frames := 0, cells := 0, slots := 0, locals := 0 } : Room) s m args below meth c Q 5 2 z.2 L [(0, .ref (wAd w b0)), (1, .ref (wAd w b1)), (2, .int z.1)] [] := by
  intro H locs ls hP hS hl
  unfold f_X3_putInOrder_l2 at hf
  refine lv_iload_n C.1 C.2.1 dX3_putInOrder_2 rfl (lv_at hl 2 rfl) ?_
  refine lv_aload_n C.1 C.2.1 dX3_putInOrder_3 rfl (lv_at hl 0 rfl) ?_
  refine k_get (v := .int (z.2 b0 3)) C hP (C9 C (lt_Matches hb0)) (ob_Matches hb0 w L _) rfl iX3 3 (by decide) q230 rfl dX3_putInOrder_4 ?_
  refine lv_icmp_ge (tgt := 79) C.1 C.2.1 dX3_putInOrder_7 (by decide) (fun c1 => ?_) (fun c1 => ?_)
  · have hf := (if_pos c1).symm.trans hf
    cases hf
    exact hE _ rfl _ _ _ hP hS (lv_sub hl [] rfl)
  · have hf := (if_neg c1).symm.trans hf
    refine lv_aload_n C.1 C.2.1 dX3_putInOrder_10 rfl (lv_at hl 1 rfl) ?_
    refine k_get (v := .ref (wAd w (b1 + 4))) C hP (C9 C (lt_State hb1)) (ob_State hb1 w L _) rfl iX5 3 (by decide) q50 rfl dX3_putInOrder_11 ?_
    refine lv_iload_n C.1 C.2.1 dX3_putInOrder_14 rfl (lv_at hl 2 rfl) ?_
    obtain ⟨x2, hx2, hf⟩ := ob hf
    refine k_iald C hP (C9 C (la_State_complaintMinutes hb1)) (ar_State_complaintMinutes hb1 w L _) hx2 dX3_putInOrder_15 ?_
    refine lv_istore_n (lv' := [(3, .int x2), (0, .ref (wAd w b0)), (1, .ref (wAd w b1)), (2, .int z.1)]) C.1 C.2.1 dX3_putInOrder_16 rfl hl (by decide) rfl (fun ls hl => ?_)
    refine lv_iload_n C.1 C.2.1 dX3_putInOrder_17 rfl (lv_at hl 3 rfl) ?_
    refine lv_istore (lv' := [(4, .int z.1), (3, .int x2), (0, .ref (wAd w b0)), (1, .ref (wAd w b1)), (2, .int z.1)]) C.1 C.2.1 dX3_putInOrder_18 hl (by decide) rfl (fun ls hl => ?_)
    obtain ⟨o9, ho9, hf⟩ := ob hf
    refine loop_at (w_X3_putInOrder_l20 C hb0 hb1) FU _ o9 ho9 ?_ _ _ _ hP hS (lv_sub hl [2, 3, 4, 1, 0] rfl)
    intro H locs ls hP hS hl
    exact w_X3_putInOrder_j65 C hb0 hb1 hf hA hE _ _ _ hP hS hl
set_option maxHeartbeats 4000000 in
set_option maxRecDepth 100000 in
theorem c_X3_putInOrder (w : WT) (l : Launch) (hw : WOK w) {b0 : Nat} {b1 : Nat} (hb0 : isMt b0) (hb1 : isSt b1) {M : Mem} {L : Lng} {out : Mem} (hf : f_X3_putInOrder b0 b1 M = some out) : Met l yX3_putInOrder (Cond.code yX3_putInOrder cX3_putInOrder 5 none :: BG) ({ frames := 0, cells := 0, slots := 0, locals := 0 } : Room) (PRE w [.ref (wAd w b0), .ref (wAd w b1)] M L) (QV w out L) 0 0 (wA w) := by
  refine kEnt hw (by decide +kernel) rfl (Nat.le_of_ble_eq_true rfl) ?_
  intro p e s m args below meth c C ls hl hP
  have hS : va_S (wA w) s.heap s.heap [] := va_S.rf
  have hl : lv_has ls 5 [(0, .ref (wAd w b0)), (1, .ref (wAd w b1))] := hl
  unfold f_X3_putInOrder at hf
  refine lv_iconst (v := 0) C.1 C.2.1 dX3_putInOrder_0 (by decide) ?_
  refine lv_istore_n (lv' := [(2, .int 0), (0, .ref (wAd w b0)), (1, .ref (wAd w b1))]) C.1 C.2.1 dX3_putInOrder_1 rfl hl (by decide) rfl (fun ls hl => ?_)
  obtain ⟨o11, ho11, hf⟩ := ob hf
  refine loop_at (w_X3_putInOrder_l2 C hb0 hb1) FU _ o11 ho11 ?_ _ _ _ hP hS (lv_sub hl [1, 2, 0] rfl)
  intro H locs ls hP hS hl
  cases hf
  exact krv C hP hS dX3_putInOrder_79
theorem dX3_bestFor_0 : decode cX3_bestFor 0 = .ok (.iconst (-1), 1) := by decide +kernel
theorem dX3_bestFor_1 : decode cX3_bestFor 1 = .ok (.istore 4, 2) := by decide +kernel
theorem dX3_bestFor_3 : decode cX3_bestFor 3 = .ok (.iconst 0, 1) := by decide +kernel
theorem dX3_bestFor_4 : decode cX3_bestFor 4 = .ok (.istore 5, 2) := by decide +kernel
theorem dX3_bestFor_6 : decode cX3_bestFor 6 = .ok (.iload 5, 2) := by decide +kernel
theorem dX3_bestFor_8 : decode cX3_bestFor 8 = .ok (.aload_n 2, 1) := by decide +kernel
theorem dX3_bestFor_9 : decode cX3_bestFor 9 = .ok (.getfield 31, 3) := by decide +kernel
theorem dX3_bestFor_12 : decode cX3_bestFor 12 = .ok (.if_icmp .ge 95, 3) := by decide +kernel
theorem dX3_bestFor_15 : decode cX3_bestFor 15 = .ok (.aload_n 0, 1) := by decide +kernel
theorem dX3_bestFor_16 : decode cX3_bestFor 16 = .ok (.getfield 15, 3) := by decide +kernel
theorem dX3_bestFor_19 : decode cX3_bestFor 19 = .ok (.iload 5, 2) := by decide +kernel
theorem dX3_bestFor_21 : decode cX3_bestFor 21 = .ok (.iaload, 1) := by decide +kernel
theorem dX3_bestFor_22 : decode cX3_bestFor 22 = .ok (.iconst (-1), 1) := by decide +kernel
theorem dX3_bestFor_23 : decode cX3_bestFor 23 = .ok (.if_icmp .ne 7, 3) := by decide +kernel
theorem dX3_bestFor_26 : decode cX3_bestFor 26 = .ok (.iconst 1, 1) := by decide +kernel
theorem dX3_bestFor_27 : decode cX3_bestFor 27 = .ok (.goto 4, 3) := by decide +kernel
theorem dX3_bestFor_30 : decode cX3_bestFor 30 = .ok (.iconst 0, 1) := by decide +kernel
theorem dX3_bestFor_31 : decode cX3_bestFor 31 = .ok (.istore 6, 2) := by decide +kernel
theorem dX3_bestFor_33 : decode cX3_bestFor 33 = .ok (.aload_n 2, 1) := by decide +kernel
theorem dX3_bestFor_34 : decode cX3_bestFor 34 = .ok (.getfield 47, 3) := by decide +kernel
theorem dX3_bestFor_37 : decode cX3_bestFor 37 = .ok (.iload 5, 2) := by decide +kernel
theorem dX3_bestFor_39 : decode cX3_bestFor 39 = .ok (.iaload, 1) := by decide +kernel
theorem dX3_bestFor_40 : decode cX3_bestFor 40 = .ok (.iload_n 1, 1) := by decide +kernel
theorem dX3_bestFor_41 : decode cX3_bestFor 41 = .ok (.if_icmp .gt 20, 3) := by decide +kernel
theorem dX3_bestFor_44 : decode cX3_bestFor 44 = .ok (.aload_n 2, 1) := by decide +kernel
theorem dX3_bestFor_45 : decode cX3_bestFor 45 = .ok (.getfield 50, 3) := by decide +kernel
theorem dX3_bestFor_48 : decode cX3_bestFor 48 = .ok (.iload 5, 2) := by decide +kernel
theorem dX3_bestFor_50 : decode cX3_bestFor 50 = .ok (.iaload, 1) := by decide +kernel
theorem dX3_bestFor_51 : decode cX3_bestFor 51 = .ok (.iload_n 1, 1) := by decide +kernel
theorem dX3_bestFor_52 : decode cX3_bestFor 52 = .ok (.iload_n 3, 1) := by decide +kernel
theorem dX3_bestFor_53 : decode cX3_bestFor 53 = .ok (.isub, 1) := by decide +kernel
theorem dX3_bestFor_54 : decode cX3_bestFor 54 = .ok (.if_icmp .lt 7, 3) := by decide +kernel
theorem dX3_bestFor_57 : decode cX3_bestFor 57 = .ok (.iconst 1, 1) := by decide +kernel
theorem dX3_bestFor_58 : decode cX3_bestFor 58 = .ok (.goto 4, 3) := by decide +kernel
theorem dX3_bestFor_61 : decode cX3_bestFor 61 = .ok (.iconst 0, 1) := by decide +kernel
theorem dX3_bestFor_62 : decode cX3_bestFor 62 = .ok (.istore 7, 2) := by decide +kernel
theorem dX3_bestFor_64 : decode cX3_bestFor 64 = .ok (.iload 6, 2) := by decide +kernel
theorem dX3_bestFor_66 : decode cX3_bestFor 66 = .ok (.ifCond .eq 35, 3) := by decide +kernel
theorem dX3_bestFor_69 : decode cX3_bestFor 69 = .ok (.iload 7, 2) := by decide +kernel
theorem dX3_bestFor_71 : decode cX3_bestFor 71 = .ok (.ifCond .eq 30, 3) := by decide +kernel
theorem dX3_bestFor_74 : decode cX3_bestFor 74 = .ok (.iload 4, 2) := by decide +kernel
theorem dX3_bestFor_76 : decode cX3_bestFor 76 = .ok (.iconst (-1), 1) := by decide +kernel
theorem dX3_bestFor_77 : decode cX3_bestFor 77 = .ok (.if_icmp .eq 20, 3) := by decide +kernel
theorem dX3_bestFor_80 : decode cX3_bestFor 80 = .ok (.aload_n 2, 1) := by decide +kernel
theorem dX3_bestFor_81 : decode cX3_bestFor 81 = .ok (.getfield 53, 3) := by decide +kernel
theorem dX3_bestFor_84 : decode cX3_bestFor 84 = .ok (.iload 5, 2) := by decide +kernel
theorem dX3_bestFor_86 : decode cX3_bestFor 86 = .ok (.iaload, 1) := by decide +kernel
theorem dX3_bestFor_87 : decode cX3_bestFor 87 = .ok (.aload_n 2, 1) := by decide +kernel
theorem dX3_bestFor_88 : decode cX3_bestFor 88 = .ok (.getfield 53, 3) := by decide +kernel
theorem dX3_bestFor_91 : decode cX3_bestFor 91 = .ok (.iload 4, 2) := by decide +kernel
theorem dX3_bestFor_93 : decode cX3_bestFor 93 = .ok (.iaload, 1) := by decide +kernel
theorem dX3_bestFor_94 : decode cX3_bestFor 94 = .ok (.if_icmp .le 7, 3) := by decide +kernel
theorem dX3_bestFor_97 : decode cX3_bestFor 97 = .ok (.iload 5, 2) := by decide +kernel
theorem dX3_bestFor_99 : decode cX3_bestFor 99 = .ok (.istore 4, 2) := by decide +kernel
theorem dX3_bestFor_101 : decode cX3_bestFor 101 = .ok (.iinc 5 1, 3) := by decide +kernel
theorem dX3_bestFor_104 : decode cX3_bestFor 104 = .ok (.goto (-98), 3) := by decide +kernel
theorem dX3_bestFor_107 : decode cX3_bestFor 107 = .ok (.iload 4, 2) := by decide +kernel
theorem dX3_bestFor_109 : decode cX3_bestFor 109 = .ok (.ireturn, 1) := by decide +kernel
set_option maxHeartbeats 4000000 in
set_option maxRecDepth 100000 in
theorem w_X3_bestFor_j101 {b0 : Nat} {b1 : Nat} {w : WT} {l : Launch} {p : Program} {e : Env} {s : State} {m : MethodId} {args : Array Value} {below : List Frame} {meth : Method} {c : Code} (C : KC w p s m args meth c cX3_bestFor 8 RX3 (some .int)) (hb0 : isMt b0) (hb1 : isEx b1) {v1 : Int32} {v3 : Int32} {v4 : Int32} {v5 : Int32} {M : Mem} {L : Lng} {Q : State → Prop} {o : (Int32 × Int32) ⊕ (Int32)} (hf : f_X3_bestFor_j101 b0 b1 v1 v3 v4 v5 M = some o) (hA : ∀ z, o = .inl z → AtL w p l e ({ frames := 0, cells := 0, slots := 0, locals := 0 } : Room) s m args below meth c Q 8 6 M L [(0, .ref (wAd w b0)), (1, .int v1), (2, .ref (wAd w b1)), (3, .int v3), (4, .int z.1), (5, .int z.2)] []) (hE : ∀ y, o = .inr y → AtL w p l e ({ frames := 0, cells := 0, slots := 0, locals := 0 } : Room) s m args below meth c Q 8 107 M L [(4, .int y)] []) : AtL w p l e ({ frames := 0, cells := 0, slots := 0, locals := 0 } : Room) s m args below meth c Q 8 101 M L [(0, .ref (wAd w b0)), (1, .int v1), (2, .ref (wAd w b1)), (3, .int v3), (4, .int v4), (5, .int v5)] [] := by
  intro H locs ls hP hS hl
  unfold f_X3_bestFor_j101 at hf
  refine lv_iinc (v := (v5 + 1)) (lv' := [(5, .int (v5 + 1)), (0, .ref (wAd w b0)), (1, .int v1), (2, .ref (wAd w b1)), (3, .int v3), (4, .int v4)]) C.1 C.2.1 dX3_bestFor_101 hl (k := 5) rfl rfl (by decide) rfl (fun ls hl => ?_)
  refine lv_goto (tgt := 6) C.1 C.2.1 dX3_bestFor_104 (by decide) ?_
  cases hf
  exact hA _ rfl _ _ _ hP hS (lv_sub hl [1, 2, 3, 4, 5, 0] rfl)
set_option maxHeartbeats 4000000 in
set_option maxRecDepth 100000 in
theorem w_X3_bestFor_j97 {b0 : Nat} {b1 : Nat} {w : WT} {l : Launch} {p : Program} {e : Env} {s : State} {m : MethodId} {args : Array Value} {below : List Frame} {meth : Method} {c : Code} (C : KC w p s m args meth c cX3_bestFor 8 RX3 (some .int)) (hb0 : isMt b0) (hb1 : isEx b1) {v1 : Int32} {v3 : Int32} {v5 : Int32} {M : Mem} {L : Lng} {Q : State → Prop} {o : (Int32 × Int32) ⊕ (Int32)} (hf : f_X3_bestFor_j97 b0 b1 v1 v3 v5 M = some o) (hA : ∀ z, o = .inl z → AtL w p l e ({ frames := 0, cells := 0, slots := 0, locals := 0 } : Room) s m args below meth c Q 8 6 M L [(0, .ref (wAd w b0)), (1, .int v1), (2, .ref (wAd w b1)), (3, .int v3), (4, .int z.1), (5, .int z.2)] []) (hE : ∀ y, o = .inr y → AtL w p l e ({ frames := 0, cells := 0, slots := 0, locals := 0 } : Room) s m args below meth c Q 8 107 M L [(4, .int y)] []) : AtL w p l e ({ frames := 0, cells := 0, slots := 0, locals := 0 } : Room) s m args below meth c Q 8 97 M L [(0, .ref (wAd w b0)), (1, .int v1), (2, .ref (wAd w b1)), (3, .int v3), (5, .int v5)] [] := by
  intro H locs ls hP hS hl
  unfold f_X3_bestFor_j97 at hf
  refine lv_iload C.1 C.2.1 dX3_bestFor_97 (lv_at hl 4 rfl) ?_
  refine lv_istore (lv' := [(4, .int v5), (0, .ref (wAd w b0)), (1, .int v1), (2, .ref (wAd w b1)), (3, .int v3), (5, .int v5)]) C.1 C.2.1 dX3_bestFor_99 hl (by decide) rfl (fun ls hl => ?_)
  exact w_X3_bestFor_j101 C hb0 hb1 hf hA hE _ _ _ hP hS (lv_sub hl [1, 2, 3, 4, 0, 5] rfl)
set_option maxHeartbeats 4000000 in
set_option maxRecDepth 100000 in
theorem w_X3_bestFor_j62 {b0 : Nat} {b1 : Nat} {w : WT} {l : Launch} {p : Program} {e : Env} {s : State} {m : MethodId} {args : Array Value} {below : List Frame} {meth : Method} {c : Code} (C : KC w p s m args meth c cX3_bestFor 8 RX3 (some .int)) (hb0 : isMt b0) (hb1 : isEx b1) {v1 : Int32} {v3 : Int32} {v4 : Int32} {v5 : Int32} {v6 : Int32} {s0 : Int32} {M : Mem} {L : Lng} {Q : State → Prop} {o : (Int32 × Int32) ⊕ (Int32)} (hf : f_X3_bestFor_j62 b0 b1 v1 v3 v4 v5 v6 s0 M = some o) (hA : ∀ z, o = .inl z → AtL w p l e ({ frames := 0, cells := 0, slots := 0, locals := 0 } : Room) s m args below meth c Q 8 6 M L [(0, .ref (wAd w b0)), (1, .int v1), (2, .ref (wAd w b1)), (3, .int v3), (4, .int z.1), (5, .int z.2)] []) (hE : ∀ y, o = .inr y → AtL w p l e ({ frames := 0, cells := 0, slots := 0, locals := 0 } : Room) s m args below meth c Q 8 107 M L [(4, .int y)] []) : AtL w p l e ({ frames := 0, cells := 0, slots := 0, locals := 0 } : Room) s m args below meth c Q 8 62 M L [(0, .ref (wAd w b0)), (1, .int v1), (2, .ref (wAd w b1)), (3, .int v3), (4, .int v4), (5, .int v5), (6, .int v6)] [.int s0] := by
  intro H locs ls hP hS hl
  unfold f_X3_bestFor_j62 at hf
  refine lv_istore (lv' := [(7, .int s0), (0, .ref (wAd w b0)), (1, .int v1), (2, .ref (wAd w b1)), (3, .int v3), (4, .int v4), (5, .int v5), (6, .int v6)]) C.1 C.2.1 dX3_bestFor_62 hl (by decide) rfl (fun ls hl => ?_)
  refine lv_iload C.1 C.2.1 dX3_bestFor_64 (lv_at hl 7 rfl) ?_
  refine lv_if_eq (tgt := 101) C.1 C.2.1 dX3_bestFor_66 (by decide) (fun c6 => ?_) (fun c6 => ?_)
  · have hf := (if_pos c6).symm.trans hf
    exact w_X3_bestFor_j101 C hb0 hb1 hf hA hE _ _ _ hP hS (lv_sub hl [1, 2, 3, 4, 5, 6] rfl)
  · have hf := (if_neg c6).symm.trans hf
    refine lv_iload C.1 C.2.1 dX3_bestFor_69 (lv_at hl 0 rfl) ?_
    refine lv_if_eq (tgt := 101) C.1 C.2.1 dX3_bestFor_71 (by decide) (fun c7 => ?_) (fun c7 => ?_)
    · have hf := (if_pos c7).symm.trans hf
      exact w_X3_bestFor_j101 C hb0 hb1 hf hA hE _ _ _ hP hS (lv_sub hl [1, 2, 3, 4, 5, 6] rfl)
    · have hf := (if_neg c7).symm.trans hf
      refine lv_iload C.1 C.2.1 dX3_bestFor_74 (lv_at hl 5 rfl) ?_
      refine lv_iconst (v := (-1)) C.1 C.2.1 dX3_bestFor_76 (by decide) ?_
      refine lv_icmp_eq (tgt := 97) C.1 C.2.1 dX3_bestFor_77 (by decide) (fun c8 => ?_) (fun c8 => ?_)
      · have hf := (if_pos c8).symm.trans hf
        exact w_X3_bestFor_j97 C hb0 hb1 hf hA hE _ _ _ hP hS (lv_sub hl [1, 2, 3, 4, 6] rfl)
      · have hf := (if_neg c8).symm.trans hf
        refine lv_aload_n C.1 C.2.1 dX3_bestFor_80 rfl (lv_at hl 3 rfl) ?_
        refine k_get (v := .ref (wAd w (b1 + 4))) C hP (C9 C (lt_Exceedances hb1)) (ob_Exceedances hb1 w L _) rfl iX0 3 (by decide) q190 rfl dX3_bestFor_81 ?_
        refine lv_iload C.1 C.2.1 dX3_bestFor_84 (lv_at hl 6 rfl) ?_
        obtain ⟨x9, hx9, hf⟩ := ob hf
        refine k_iald C hP (C9 C (la_Exceedances_peaks hb1)) (ar_Exceedances_peaks hb1 w L _) hx9 dX3_bestFor_86 ?_
        refine lv_aload_n C.1 C.2.1 dX3_bestFor_87 rfl (lv_at hl 3 rfl) ?_
        refine k_get (v := .ref (wAd w (b1 + 4))) C hP (C9 C (lt_Exceedances hb1)) (ob_Exceedances hb1 w L _) rfl iX0 3 (by decide) q190 rfl dX3_bestFor_88 ?_
        refine lv_iload C.1 C.2.1 dX3_bestFor_91 (lv_at hl 5 rfl) ?_
        obtain ⟨x10, hx10, hf⟩ := ob hf
        refine k_iald C hP (C9 C (la_Exceedances_peaks hb1)) (ar_Exceedances_peaks hb1 w L _) hx10 dX3_bestFor_93 ?_
        refine lv_icmp_le (tgt := 101) C.1 C.2.1 dX3_bestFor_94 (by decide) (fun c11 => ?_) (fun c11 => ?_)
        · have hf := (if_pos c11).symm.trans hf
          exact w_X3_bestFor_j101 C hb0 hb1 hf hA hE _ _ _ hP hS (lv_sub hl [1, 2, 3, 4, 5, 6] rfl)
        · have hf := (if_neg c11).symm.trans hf
          exact w_X3_bestFor_j97 C hb0 hb1 hf hA hE _ _ _ hP hS (lv_sub hl [1, 2, 3, 4, 6] rfl)
set_option maxHeartbeats 4000000 in
set_option maxRecDepth 100000 in
theorem w_X3_bestFor_j61 {b0 : Nat} {b1 : Nat} {w : WT} {l : Launch} {p : Program} {e : Env} {s : State} {m : MethodId} {args : Array Value} {below : List Frame} {meth : Method} {c : Code} (C : KC w p s m args meth c cX3_bestFor 8 RX3 (some .int)) (hb0 : isMt b0) (hb1 : isEx b1) {v1 : Int32} {v3 : Int32} {v4 : Int32} {v5 : Int32} {v6 : Int32} {M : Mem} {L : Lng} {Q : State → Prop} {o : (Int32 × Int32) ⊕ (Int32)} (hf : f_X3_bestFor_j61 b0 b1 v1 v3 v4 v5 v6 M = some o) (hA : ∀ z, o = .inl z → AtL w p l e ({ frames := 0, cells := 0, slots := 0, locals := 0 } : Room) s m args below meth c Q 8 6 M L [(0, .ref (wAd w b0)), (1, .int v1), (2, .ref (wAd w b1)), (3, .int v3), (4, .int z.1), (5, .int z.2)] []) (hE : ∀ y, o = .inr y → AtL w p l e ({ frames := 0, cells := 0, slots := 0, locals := 0 } : Room) s m args below meth c Q 8 107 M L [(4, .int y)] []) : AtL w p l e ({ frames := 0, cells := 0, slots := 0, locals := 0 } : Room) s m args below meth c Q 8 61 M L [(0, .ref (wAd w b0)), (1, .int v1), (2, .ref (wAd w b1)), (3, .int v3), (4, .int v4), (5, .int v5), (6, .int v6)] [] := by
  intro H locs ls hP hS hl
  unfold f_X3_bestFor_j61 at hf
  refine lv_iconst (v := 0) C.1 C.2.1 dX3_bestFor_61 (by decide) ?_
  exact w_X3_bestFor_j62 C hb0 hb1 hf hA hE _ _ _ hP hS hl
set_option maxHeartbeats 4000000 in
set_option maxRecDepth 100000 in
theorem w_X3_bestFor_j31 {b0 : Nat} {b1 : Nat} {w : WT} {l : Launch} {p : Program} {e : Env} {s : State} {m : MethodId} {args : Array Value} {below : List Frame} {meth : Method} {c : Code} (C : KC w p s m args meth c cX3_bestFor 8 RX3 (some .int)) (hb0 : isMt b0) (hb1 : isEx b1) {v1 : Int32} {v3 : Int32} {v4 : Int32} {v5 : Int32} {s0 : Int32} {M : Mem} {L : Lng} {Q : State → Prop} {o : (Int32 × Int32) ⊕ (Int32)} (hf : f_X3_bestFor_j31 b0 b1 v1 v3 v4 v5 s0 M = some o) (hA : ∀ z, o = .inl z → AtL w p l e ({ frames := 0, cells := 0, slots := 0, locals := 0 } : Room) s m args below meth c Q 8 6 M L [(0, .ref (wAd w b0)), (1, .int v1), (2, .ref (wAd w b1)), (3, .int v3), (4, .int z.1), (5, .int z.2)] []) (hE : ∀ y, o = .inr y → AtL w p l e ({ frames := 0, cells := 0, slots := 0, locals := 0 } : Room) s m args below meth c Q 8 107 M L [(4, .int y)] []) : AtL w p l e ({ frames := 0, cells := 0, slots := 0, locals := 0 } : Room) s m args below meth c Q 8 31 M L [(0, .ref (wAd w b0)), (1, .int v1), (2, .ref (wAd w b1)), (3, .int v3), (4, .int v4), (5, .int v5)] [.int s0] := by
  intro H locs ls hP hS hl
  unfold f_X3_bestFor_j31 at hf
  refine lv_istore (lv' := [(6, .int s0), (0, .ref (wAd w b0)), (1, .int v1), (2, .ref (wAd w b1)), (3, .int v3), (4, .int v4), (5, .int v5)]) C.1 C.2.1 dX3_bestFor_31 hl (by decide) rfl (fun ls hl => ?_)
  refine lv_aload_n C.1 C.2.1 dX3_bestFor_33 rfl (lv_at hl 3 rfl) ?_
  refine k_get (v := .ref (wAd w (b1 + 1))) C hP (C9 C (lt_Exceedances hb1)) (ob_Exceedances hb1 w L _) rfl iX0 0 (by decide) q182 rfl dX3_bestFor_34 ?_
  refine lv_iload C.1 C.2.1 dX3_bestFor_37 (lv_at hl 6 rfl) ?_
  obtain ⟨x4, hx4, hf⟩ := ob hf
  refine k_iald C hP (C9 C (la_Exceedances_begins hb1)) (ar_Exceedances_begins hb1 w L _) hx4 dX3_bestFor_39 ?_
  refine lv_iload_n C.1 C.2.1 dX3_bestFor_40 rfl (lv_at hl 2 rfl) ?_
  refine lv_icmp_gt (tgt := 61) C.1 C.2.1 dX3_bestFor_41 (by decide) (fun c5 => ?_) (fun c5 => ?_)
  · have hf := (if_pos c5).symm.trans hf
    exact w_X3_bestFor_j61 C hb0 hb1 hf hA hE _ _ _ hP hS (lv_sub hl [1, 2, 3, 4, 5, 6, 0] rfl)
  · have hf := (if_neg c5).symm.trans hf
    refine lv_aload_n C.1 C.2.1 dX3_bestFor_44 rfl (lv_at hl 3 rfl) ?_
    refine k_get (v := .ref (wAd w (b1 + 2))) C hP (C9 C (lt_Exceedances hb1)) (ob_Exceedances hb1 w L _) rfl iX0 1 (by decide) q185 rfl dX3_bestFor_45 ?_
    refine lv_iload C.1 C.2.1 dX3_bestFor_48 (lv_at hl 6 rfl) ?_
    obtain ⟨x12, hx12, hf⟩ := ob hf
    refine k_iald C hP (C9 C (la_Exceedances_ends hb1)) (ar_Exceedances_ends hb1 w L _) hx12 dX3_bestFor_50 ?_
    refine lv_iload_n C.1 C.2.1 dX3_bestFor_51 rfl (lv_at hl 2 rfl) ?_
    refine lv_iload_n C.1 C.2.1 dX3_bestFor_52 rfl (lv_at hl 4 rfl) ?_
    refine lv_isub C.1 C.2.1 dX3_bestFor_53 ?_
    refine lv_icmp_lt (tgt := 61) C.1 C.2.1 dX3_bestFor_54 (by decide) (fun c13 => ?_) (fun c13 => ?_)
    · have hf := (if_pos c13).symm.trans hf
      exact w_X3_bestFor_j61 C hb0 hb1 hf hA hE _ _ _ hP hS (lv_sub hl [1, 2, 3, 4, 5, 6, 0] rfl)
    · have hf := (if_neg c13).symm.trans hf
      refine lv_iconst (v := 1) C.1 C.2.1 dX3_bestFor_57 (by decide) ?_
      refine lv_goto (tgt := 62) C.1 C.2.1 dX3_bestFor_58 (by decide) ?_
      exact w_X3_bestFor_j62 C hb0 hb1 hf hA hE _ _ _ hP hS (lv_sub hl [1, 2, 3, 4, 5, 6, 0] rfl)
set_option maxHeartbeats 4000000 in
set_option maxRecDepth 100000 in
theorem w_X3_bestFor_l6 {b0 : Nat} {b1 : Nat} {w : WT} {l : Launch} {p : Program} {e : Env} {s : State} {m : MethodId} {args : Array Value} {below : List Frame} {meth : Method} {c : Code} (C : KC w p s m args meth c cX3_bestFor 8 RX3 (some .int)) (hb0 : isMt b0) (hb1 : isEx b1) {v1 : Int32} {v3 : Int32} {M : Mem} {L : Lng} {Q : State → Prop} (z : Int32 × Int32) (o : (Int32 × Int32) ⊕ (Int32)) (hf : f_X3_bestFor_l6 b0 b1 v1 v3 M z = some o) (hA : ∀ z, o = .inl z → AtL w p l e ({ frames := 0, cells := 0, slots := 0, locals := 0 } : Room) s m args below meth c Q 8 6 M L [(0, .ref (wAd w b0)), (1, .int v1), (2, .ref (wAd w b1)), (3, .int v3), (4, .int z.1), (5, .int z.2)] []) (hE : ∀ y, o = .inr y → AtL w p l e ({ frames := 0, cells := 0, slots := 0, locals := 0 } : Room) s m args below meth c Q 8 107 M L [(4, .int y)] []) : AtL w p l e ({ frames := 0, cells := 0, slots := 0, locals := 0 } : Room) s m args below meth c Q 8 6 M L [(0, .ref (wAd w b0)), (1, .int v1), (2, .ref (wAd w b1)), (3, .int v3), (4, .int z.1), (5, .int z.2)] [] := by
  intro H locs ls hP hS hl
  unfold f_X3_bestFor_l6 at hf
  refine lv_iload C.1 C.2.1 dX3_bestFor_6 (lv_at hl 5 rfl) ?_
  refine lv_aload_n C.1 C.2.1 dX3_bestFor_8 rfl (lv_at hl 2 rfl) ?_
  refine k_get (v := .int (M b1 6)) C hP (C9 C (lt_Exceedances hb1)) (ob_Exceedances hb1 w L _) rfl iX0 6 (by decide) q197 rfl dX3_bestFor_9 ?_
  refine lv_icmp_ge (tgt := 107) C.1 C.2.1 dX3_bestFor_12 (by decide) (fun c1 => ?_) (fun c1 => ?_)
  · have hf := (if_pos c1).symm.trans hf
    cases hf
    exact hE _ rfl _ _ _ hP hS (lv_sub hl [4] rfl)
  · have hf := (if_neg c1).symm.trans hf
    refine lv_aload_n C.1 C.2.1 dX3_bestFor_15 rfl (lv_at hl 0 rfl) ?_
    refine k_get (v := .ref (wAd w (b0 + 2))) C hP (C9 C (lt_Matches hb0)) (ob_Matches hb0 w L _) rfl iX3 1 (by decide) q227 rfl dX3_bestFor_16 ?_
    refine lv_iload C.1 C.2.1 dX3_bestFor_19 (lv_at hl 5 rfl) ?_
    obtain ⟨x2, hx2, hf⟩ := ob hf
    refine k_iald C hP (C9 C (la_Matches_complaintOf hb0)) (ar_Matches_complaintOf hb0 w L _) hx2 dX3_bestFor_21 ?_
    refine lv_iconst (v := (-1)) C.1 C.2.1 dX3_bestFor_22 (by decide) ?_
    refine lv_icmp_ne (tgt := 30) C.1 C.2.1 dX3_bestFor_23 (by decide) (fun c3 => ?_) (fun c3 => ?_)
    · have hf := (if_neg c3).symm.trans hf
      refine lv_iconst (v := 0) C.1 C.2.1 dX3_bestFor_30 (by decide) ?_
      exact w_X3_bestFor_j31 C hb0 hb1 hf hA hE _ _ _ hP hS hl
    · have hf := (if_pos c3).symm.trans hf
      refine lv_iconst (v := 1) C.1 C.2.1 dX3_bestFor_26 (by decide) ?_
      refine lv_goto (tgt := 31) C.1 C.2.1 dX3_bestFor_27 (by decide) ?_
      exact w_X3_bestFor_j31 C hb0 hb1 hf hA hE _ _ _ hP hS hl
set_option maxHeartbeats 4000000 in
set_option maxRecDepth 100000 in
theorem c_X3_bestFor (w : WT) (l : Launch) (hw : WOK w) {b0 : Nat} {b1 : Nat} (hb0 : isMt b0) (hb1 : isEx b1) {a1 : Int32} {a3 : Int32} {M : Mem} {L : Lng} {out : Int32} (hf : f_X3_bestFor b0 b1 a1 a3 M = some out) : Met l yX3_bestFor (Cond.code yX3_bestFor cX3_bestFor 8 (some .int) :: BG) ({ frames := 0, cells := 0, slots := 0, locals := 0 } : Room) (PRE w [.ref (wAd w b0), .int a1, .ref (wAd w b1), .int a3] M L) (QI w out M L) 0 0 (wA w) := by
  refine kEnt hw (by decide +kernel) rfl (Nat.le_of_ble_eq_true rfl) ?_
  intro p e s m args below meth c C ls hl hP
  have hS : va_S (wA w) s.heap s.heap [] := va_S.rf
  have hl : lv_has ls 8 [(0, .ref (wAd w b0)), (1, .int a1), (2, .ref (wAd w b1)), (3, .int a3)] := hl
  unfold f_X3_bestFor at hf
  refine lv_iconst (v := (-1)) C.1 C.2.1 dX3_bestFor_0 (by decide) ?_
  refine lv_istore (lv' := [(4, .int (-1)), (0, .ref (wAd w b0)), (1, .int a1), (2, .ref (wAd w b1)), (3, .int a3)]) C.1 C.2.1 dX3_bestFor_1 hl (by decide) rfl (fun ls hl => ?_)
  refine lv_iconst (v := 0) C.1 C.2.1 dX3_bestFor_3 (by decide) ?_
  refine lv_istore (lv' := [(5, .int 0), (4, .int (-1)), (0, .ref (wAd w b0)), (1, .int a1), (2, .ref (wAd w b1)), (3, .int a3)]) C.1 C.2.1 dX3_bestFor_4 hl (by decide) rfl (fun ls hl => ?_)
  obtain ⟨o14, ho14, hf⟩ := ob hf
  refine loop_at (w_X3_bestFor_l6 C hb0 hb1) FU _ o14 ho14 ?_ _ _ _ hP hS (lv_sub hl [2, 3, 4, 5, 1, 0] rfl)
  intro H locs ls hP hS hl
  refine lv_iload C.1 C.2.1 dX3_bestFor_107 (lv_at hl 0 rfl) ?_
  cases hf
  exact kri C hP hS dX3_bestFor_109
theorem dX3_match_0 : decode cX3_match 0 = .ok (.aload_n 0, 1) := by decide +kernel
theorem dX3_match_1 : decode cX3_match 1 = .ok (.aload_n 1, 1) := by decide +kernel
theorem dX3_match_2 : decode cX3_match 2 = .ok (.getfield 21, 3) := by decide +kernel
theorem dX3_match_5 : decode cX3_match 5 = .ok (.putfield 27, 3) := by decide +kernel
theorem dX3_match_8 : decode cX3_match 8 = .ok (.aload_n 0, 1) := by decide +kernel
theorem dX3_match_9 : decode cX3_match 9 = .ok (.iconst 0, 1) := by decide +kernel
theorem dX3_match_10 : decode cX3_match 10 = .ok (.putfield 28, 3) := by decide +kernel
theorem dX3_match_13 : decode cX3_match 13 = .ok (.iconst 0, 1) := by decide +kernel
theorem dX3_match_14 : decode cX3_match 14 = .ok (.istore 4, 2) := by decide +kernel
theorem dX3_match_16 : decode cX3_match 16 = .ok (.iload 4, 2) := by decide +kernel
theorem dX3_match_18 : decode cX3_match 18 = .ok (.aload_n 2, 1) := by decide +kernel
theorem dX3_match_19 : decode cX3_match 19 = .ok (.getfield 31, 3) := by decide +kernel
theorem dX3_match_22 : decode cX3_match 22 = .ok (.if_icmp .ge 17, 3) := by decide +kernel
theorem dX3_match_25 : decode cX3_match 25 = .ok (.aload_n 0, 1) := by decide +kernel
theorem dX3_match_26 : decode cX3_match 26 = .ok (.getfield 15, 3) := by decide +kernel
theorem dX3_match_29 : decode cX3_match 29 = .ok (.iload 4, 2) := by decide +kernel
theorem dX3_match_31 : decode cX3_match 31 = .ok (.iconst (-1), 1) := by decide +kernel
theorem dX3_match_32 : decode cX3_match 32 = .ok (.iastore, 1) := by decide +kernel
theorem dX3_match_33 : decode cX3_match 33 = .ok (.iinc 4 1, 3) := by decide +kernel
theorem dX3_match_36 : decode cX3_match 36 = .ok (.goto (-20), 3) := by decide +kernel
theorem dX3_match_39 : decode cX3_match 39 = .ok (.aload_n 0, 1) := by decide +kernel
theorem dX3_match_40 : decode cX3_match 40 = .ok (.aload_n 1, 1) := by decide +kernel
theorem dX3_match_41 : decode cX3_match 41 = .ok (.invokevirtual 36, 3) := by decide +kernel
theorem dX3_match_44 : decode cX3_match 44 = .ok (.iconst 0, 1) := by decide +kernel
theorem dX3_match_45 : decode cX3_match 45 = .ok (.istore 4, 2) := by decide +kernel
theorem dX3_match_47 : decode cX3_match 47 = .ok (.iload 4, 2) := by decide +kernel
theorem dX3_match_49 : decode cX3_match 49 = .ok (.aload_n 0, 1) := by decide +kernel
theorem dX3_match_50 : decode cX3_match 50 = .ok (.getfield 27, 3) := by decide +kernel
theorem dX3_match_53 : decode cX3_match 53 = .ok (.if_icmp .ge 71, 3) := by decide +kernel
theorem dX3_match_56 : decode cX3_match 56 = .ok (.aload_n 0, 1) := by decide +kernel
theorem dX3_match_57 : decode cX3_match 57 = .ok (.getfield 18, 3) := by decide +kernel
theorem dX3_match_60 : decode cX3_match 60 = .ok (.iload 4, 2) := by decide +kernel
theorem dX3_match_62 : decode cX3_match 62 = .ok (.iaload, 1) := by decide +kernel
theorem dX3_match_63 : decode cX3_match 63 = .ok (.istore 5, 2) := by decide +kernel
theorem dX3_match_65 : decode cX3_match 65 = .ok (.aload_n 1, 1) := by decide +kernel
theorem dX3_match_66 : decode cX3_match 66 = .ok (.getfield 40, 3) := by decide +kernel
theorem dX3_match_69 : decode cX3_match 69 = .ok (.iload 5, 2) := by decide +kernel
theorem dX3_match_71 : decode cX3_match 71 = .ok (.iaload, 1) := by decide +kernel
theorem dX3_match_72 : decode cX3_match 72 = .ok (.istore 6, 2) := by decide +kernel
theorem dX3_match_74 : decode cX3_match 74 = .ok (.aload_n 0, 1) := by decide +kernel
theorem dX3_match_75 : decode cX3_match 75 = .ok (.iload 6, 2) := by decide +kernel
theorem dX3_match_77 : decode cX3_match 77 = .ok (.aload_n 2, 1) := by decide +kernel
theorem dX3_match_78 : decode cX3_match 78 = .ok (.iload_n 3, 1) := by decide +kernel
theorem dX3_match_79 : decode cX3_match 79 = .ok (.invokevirtual 43, 3) := by decide +kernel
theorem dX3_match_82 : decode cX3_match 82 = .ok (.istore 7, 2) := by decide +kernel
theorem dX3_match_84 : decode cX3_match 84 = .ok (.aload_n 0, 1) := by decide +kernel
theorem dX3_match_85 : decode cX3_match 85 = .ok (.getfield 9, 3) := by decide +kernel
theorem dX3_match_88 : decode cX3_match 88 = .ok (.iload 5, 2) := by decide +kernel
theorem dX3_match_90 : decode cX3_match 90 = .ok (.iload 7, 2) := by decide +kernel
theorem dX3_match_92 : decode cX3_match 92 = .ok (.iastore, 1) := by decide +kernel
theorem dX3_match_93 : decode cX3_match 93 = .ok (.iload 7, 2) := by decide +kernel
theorem dX3_match_95 : decode cX3_match 95 = .ok (.iconst (-1), 1) := by decide +kernel
theorem dX3_match_96 : decode cX3_match 96 = .ok (.if_icmp .eq 22, 3) := by decide +kernel
theorem dX3_match_99 : decode cX3_match 99 = .ok (.aload_n 0, 1) := by decide +kernel
theorem dX3_match_100 : decode cX3_match 100 = .ok (.getfield 15, 3) := by decide +kernel
theorem dX3_match_103 : decode cX3_match 103 = .ok (.iload 7, 2) := by decide +kernel
theorem dX3_match_105 : decode cX3_match 105 = .ok (.iload 5, 2) := by decide +kernel
theorem dX3_match_107 : decode cX3_match 107 = .ok (.iastore, 1) := by decide +kernel
theorem dX3_match_108 : decode cX3_match 108 = .ok (.aload_n 0, 1) := by decide +kernel
theorem dX3_match_109 : decode cX3_match 109 = .ok (.dup, 1) := by decide +kernel
theorem dX3_match_110 : decode cX3_match 110 = .ok (.getfield 28, 3) := by decide +kernel
theorem dX3_match_113 : decode cX3_match 113 = .ok (.iconst 1, 1) := by decide +kernel
theorem dX3_match_114 : decode cX3_match 114 = .ok (.iadd, 1) := by decide +kernel
theorem dX3_match_115 : decode cX3_match 115 = .ok (.putfield 28, 3) := by decide +kernel
theorem dX3_match_118 : decode cX3_match 118 = .ok (.iinc 4 1, 3) := by decide +kernel
theorem dX3_match_121 : decode cX3_match 121 = .ok (.goto (-74), 3) := by decide +kernel
theorem dX3_match_124 : decode cX3_match 124 = .ok (.return_, 1) := by decide +kernel
set_option maxHeartbeats 4000000 in
set_option maxRecDepth 100000 in
theorem w_X3_match_l16 {b0 : Nat} {b1 : Nat} {b2 : Nat} {w : WT} {l : Launch} {p : Program} {e : Env} {s : State} {m : MethodId} {args : Array Value} {below : List Frame} {meth : Method} {c : Code} (C : KC w p s m args meth c cX3_match 8 RX3 none) (hb0 : isMt b0) (hb1 : isSt b1) (hb2 : isEx b2) {v3 : Int32} {L : Lng} {Q : State → Prop} (z : Int32 × Mem) (o : (Int32 × Mem) ⊕ (Mem)) (hf : f_X3_match_l16 b0 b1 b2 v3 z = some o) (hA : ∀ z, o = .inl z → AtL w p l e ({ frames := 1, cells := 0, slots := 0, locals := 27 } : Room) s m args below meth c Q 8 16 z.2 L [(0, .ref (wAd w b0)), (1, .ref (wAd w b1)), (2, .ref (wAd w b2)), (3, .int v3), (4, .int z.1)] []) (hE : ∀ y, o = .inr y → AtL w p l e ({ frames := 1, cells := 0, slots := 0, locals := 27 } : Room) s m args below meth c Q 8 39 y L [(0, .ref (wAd w b0)), (1, .ref (wAd w b1)), (2, .ref (wAd w b2)), (3, .int v3)] []) : AtL w p l e ({ frames := 1, cells := 0, slots := 0, locals := 27 } : Room) s m args below meth c Q 8 16 z.2 L [(0, .ref (wAd w b0)), (1, .ref (wAd w b1)), (2, .ref (wAd w b2)), (3, .int v3), (4, .int z.1)] [] := by
  intro H locs ls hP hS hl
  unfold f_X3_match_l16 at hf
  refine lv_iload C.1 C.2.1 dX3_match_16 (lv_at hl 4 rfl) ?_
  refine lv_aload_n C.1 C.2.1 dX3_match_18 rfl (lv_at hl 2 rfl) ?_
  refine k_get (v := .int (z.2 b2 6)) C hP (C9 C (lt_Exceedances hb2)) (ob_Exceedances hb2 w L _) rfl iX0 6 (by decide) q197 rfl dX3_match_19 ?_
  refine lv_icmp_ge (tgt := 39) C.1 C.2.1 dX3_match_22 (by decide) (fun c3 => ?_) (fun c3 => ?_)
  · have hf := (if_pos c3).symm.trans hf
    cases hf
    exact hE _ rfl _ _ _ hP hS (lv_sub hl [0, 1, 2, 3] rfl)
  · have hf := (if_neg c3).symm.trans hf
    refine lv_aload_n C.1 C.2.1 dX3_match_25 rfl (lv_at hl 0 rfl) ?_
    refine k_get (v := .ref (wAd w (b0 + 2))) C hP (C9 C (lt_Matches hb0)) (ob_Matches hb0 w L _) rfl iX3 1 (by decide) q227 rfl dX3_match_26 ?_
    refine lv_iload C.1 C.2.1 dX3_match_29 (lv_at hl 4 rfl) ?_
    refine lv_iconst (v := (-1)) C.1 C.2.1 dX3_match_31 (by decide) ?_
    obtain ⟨M4, hM4, hf⟩ := ob hf
    refine k_iast C hP hS (C9 C (la_Matches_complaintOf hb0)) (ar_Matches_complaintOf hb0 w L) hM4 dX3_match_32 (fun H locs hP hS => ?_)
    refine lv_iinc (v := (z.1 + 1)) (lv' := [(4, .int (z.1 + 1)), (0, .ref (wAd w b0)), (1, .ref (wAd w b1)), (2, .ref (wAd w b2)), (3, .int v3)]) C.1 C.2.1 dX3_match_33 hl (k := 4) rfl rfl (by decide) rfl (fun ls hl => ?_)
    refine lv_goto (tgt := 16) C.1 C.2.1 dX3_match_36 (by decide) ?_
    cases hf
    exact hA _ rfl _ _ _ hP hS (lv_sub hl [1, 2, 3, 4, 0] rfl)
set_option maxHeartbeats 4000000 in
set_option maxRecDepth 100000 in
theorem w_X3_match_j118 {b0 : Nat} {b1 : Nat} {b2 : Nat} {w : WT} {l : Launch} {p : Program} {e : Env} {s : State} {m : MethodId} {args : Array Value} {below : List Frame} {meth : Method} {c : Code} (C : KC w p s m args meth c cX3_match 8 RX3 none) (hb0 : isMt b0) (hb1 : isSt b1) (hb2 : isEx b2) {v3 : Int32} {v4 : Int32} {M : Mem} {L : Lng} {Q : State → Prop} {o : (Int32 × Mem) ⊕ (Mem)} (hf : f_X3_match_j118 b0 b1 b2 v3 v4 M = some o) (hA : ∀ z, o = .inl z → AtL w p l e ({ frames := 1, cells := 0, slots := 0, locals := 27 } : Room) s m args below meth c Q 8 47 z.2 L [(0, .ref (wAd w b0)), (1, .ref (wAd w b1)), (2, .ref (wAd w b2)), (3, .int v3), (4, .int z.1)] []) (hE : ∀ y, o = .inr y → AtL w p l e ({ frames := 1, cells := 0, slots := 0, locals := 27 } : Room) s m args below meth c Q 8 124 y L [] []) : AtL w p l e ({ frames := 1, cells := 0, slots := 0, locals := 27 } : Room) s m args below meth c Q 8 118 M L [(0, .ref (wAd w b0)), (1, .ref (wAd w b1)), (2, .ref (wAd w b2)), (3, .int v3), (4, .int v4)] [] := by
  intro H locs ls hP hS hl
  unfold f_X3_match_j118 at hf
  refine lv_iinc (v := (v4 + 1)) (lv' := [(4, .int (v4 + 1)), (0, .ref (wAd w b0)), (1, .ref (wAd w b1)), (2, .ref (wAd w b2)), (3, .int v3)]) C.1 C.2.1 dX3_match_118 hl (k := 4) rfl rfl (by decide) rfl (fun ls hl => ?_)
  refine lv_goto (tgt := 47) C.1 C.2.1 dX3_match_121 (by decide) ?_
  cases hf
  exact hA _ rfl _ _ _ hP hS (lv_sub hl [1, 2, 3, 4, 0] rfl)
set_option maxHeartbeats 4000000 in
set_option maxRecDepth 100000 in
theorem w_X3_match_l47 {b0 : Nat} {b1 : Nat} {b2 : Nat} {w : WT} {l : Launch} {p : Program} {e : Env} {s : State} {m : MethodId} {args : Array Value} {below : List Frame} {meth : Method} {c : Code} (C : KC w p s m args meth c cX3_match 8 RX3 none) (hb0 : isMt b0) (hb1 : isSt b1) (hb2 : isEx b2) {v3 : Int32} {L : Lng} {Q : State → Prop} (z : Int32 × Mem) (o : (Int32 × Mem) ⊕ (Mem)) (hf : f_X3_match_l47 b0 b1 b2 v3 z = some o) (hA : ∀ z, o = .inl z → AtL w p l e ({ frames := 1, cells := 0, slots := 0, locals := 27 } : Room) s m args below meth c Q 8 47 z.2 L [(0, .ref (wAd w b0)), (1, .ref (wAd w b1)), (2, .ref (wAd w b2)), (3, .int v3), (4, .int z.1)] []) (hE : ∀ y, o = .inr y → AtL w p l e ({ frames := 1, cells := 0, slots := 0, locals := 27 } : Room) s m args below meth c Q 8 124 y L [] []) : AtL w p l e ({ frames := 1, cells := 0, slots := 0, locals := 27 } : Room) s m args below meth c Q 8 47 z.2 L [(0, .ref (wAd w b0)), (1, .ref (wAd w b1)), (2, .ref (wAd w b2)), (3, .int v3), (4, .int z.1)] [] := by
  intro H locs ls hP hS hl
  unfold f_X3_match_l47 at hf
  refine lv_iload C.1 C.2.1 dX3_match_47 (lv_at hl 4 rfl) ?_
  refine lv_aload_n C.1 C.2.1 dX3_match_49 rfl (lv_at hl 0 rfl) ?_
  refine k_get (v := .int (z.2 b0 3)) C hP (C9 C (lt_Matches hb0)) (ob_Matches hb0 w L _) rfl iX3 3 (by decide) q230 rfl dX3_match_50 ?_
  refine lv_icmp_ge (tgt := 124) C.1 C.2.1 dX3_match_53 (by decide) (fun c7 => ?_) (fun c7 => ?_)
  · have hf := (if_pos c7).symm.trans hf
    cases hf
    exact hE _ rfl _ _ _ hP hS (lv_sub hl [] rfl)
  · have hf := (if_neg c7).symm.trans hf
    refine lv_aload_n C.1 C.2.1 dX3_match_56 rfl (lv_at hl 0 rfl) ?_
    refine k_get (v := .ref (wAd w (b0 + 3))) C hP (C9 C (lt_Matches hb0)) (ob_Matches hb0 w L _) rfl iX3 2 (by decide) q229 rfl dX3_match_57 ?_
    refine lv_iload C.1 C.2.1 dX3_match_60 (lv_at hl 4 rfl) ?_
    obtain ⟨x8, hx8, hf⟩ := ob hf
    refine k_iald C hP (C9 C (la_Matches_order hb0)) (ar_Matches_order hb0 w L _) hx8 dX3_match_62 ?_
    refine lv_istore (lv' := [(5, .int x8), (0, .ref (wAd w b0)), (1, .ref (wAd w b1)), (2, .ref (wAd w b2)), (3, .int v3), (4, .int z.1)]) C.1 C.2.1 dX3_match_63 hl (by decide) rfl (fun ls hl => ?_)
    refine lv_aload_n C.1 C.2.1 dX3_match_65 rfl (lv_at hl 2 rfl) ?_
    refine k_get (v := .ref (wAd w (b1 + 4))) C hP (C9 C (lt_State hb1)) (ob_State hb1 w L _) rfl iX5 3 (by decide) q50 rfl dX3_match_66 ?_
    refine lv_iload C.1 C.2.1 dX3_match_69 (lv_at hl 0 rfl) ?_
    obtain ⟨x9, hx9, hf⟩ := ob hf
    refine k_iald C hP (C9 C (la_State_complaintMinutes hb1)) (ar_State_complaintMinutes hb1 w L _) hx9 dX3_match_71 ?_
    refine lv_istore (lv' := [(6, .int x9), (5, .int x8), (0, .ref (wAd w b0)), (1, .ref (wAd w b1)), (2, .ref (wAd w b2)), (3, .int v3), (4, .int z.1)]) C.1 C.2.1 dX3_match_72 hl (by decide) rfl (fun ls hl => ?_)
    refine lv_aload_n C.1 C.2.1 dX3_match_74 rfl (lv_at hl 2 rfl) ?_
    refine lv_iload C.1 C.2.1 dX3_match_75 (lv_at hl 0 rfl) ?_
    refine lv_aload_n C.1 C.2.1 dX3_match_77 rfl (lv_at hl 4 rfl) ?_
    refine lv_iload_n C.1 C.2.1 dX3_match_78 rfl (lv_at hl 5 rfl) ?_
    obtain ⟨r10, hr10, hf⟩ := ob hf
    refine kci (kV (As := [.int x9, .ref (wAd w b2), .int v3]) (rest := []) C hl.1 hP hS (c_X3_bestFor w l C.2.2.2.2.2.2.2.2 hb0 hb2 (L := L) hr10) (gV q588 q590 qp9 q8 q591) hd_X3_bestFor (C9 C (lt_Matches hb0)) (ob_Matches hb0 w L _) rfl ⟨rfl, rfl⟩ ⟨Nat.le_of_ble_eq_true rfl, Nat.le_of_ble_eq_true rfl⟩ rfl rfl (Nat.le_of_ble_eq_true rfl) dX3_match_79 ⟨Nat.zero_le _, Nat.zero_le _⟩) hS (fun H locs hP hS => ?_)
    refine lv_istore (lv' := [(7, .int r10), (6, .int x9), (5, .int x8), (0, .ref (wAd w b0)), (1, .ref (wAd w b1)), (2, .ref (wAd w b2)), (3, .int v3), (4, .int z.1)]) C.1 C.2.1 dX3_match_82 hl (by decide) rfl (fun ls hl => ?_)
    refine lv_aload_n C.1 C.2.1 dX3_match_84 rfl (lv_at hl 3 rfl) ?_
    refine k_get (v := .ref (wAd w (b0 + 1))) C hP (C9 C (lt_Matches hb0)) (ob_Matches hb0 w L _) rfl iX3 0 (by decide) q225 rfl dX3_match_85 ?_
    refine lv_iload C.1 C.2.1 dX3_match_88 (lv_at hl 2 rfl) ?_
    refine lv_iload C.1 C.2.1 dX3_match_90 (lv_at hl 0 rfl) ?_
    obtain ⟨M11, hM11, hf⟩ := ob hf
    refine k_iast C hP hS (C9 C (la_Matches_exceedanceOf hb0)) (ar_Matches_exceedanceOf hb0 w L) hM11 dX3_match_92 (fun H locs hP hS => ?_)
    refine lv_iload C.1 C.2.1 dX3_match_93 (lv_at hl 0 rfl) ?_
    refine lv_iconst (v := (-1)) C.1 C.2.1 dX3_match_95 (by decide) ?_
    refine lv_icmp_eq (tgt := 118) C.1 C.2.1 dX3_match_96 (by decide) (fun c12 => ?_) (fun c12 => ?_)
    · have hf := (if_pos c12).symm.trans hf
      exact w_X3_match_j118 C hb0 hb1 hb2 hf hA hE _ _ _ hP hS (lv_sub hl [3, 4, 5, 6, 7] rfl)
    · have hf := (if_neg c12).symm.trans hf
      refine lv_aload_n C.1 C.2.1 dX3_match_99 rfl (lv_at hl 3 rfl) ?_
      refine k_get (v := .ref (wAd w (b0 + 2))) C hP (C9 C (lt_Matches hb0)) (ob_Matches hb0 w L _) rfl iX3 1 (by decide) q227 rfl dX3_match_100 ?_
      refine lv_iload C.1 C.2.1 dX3_match_103 (lv_at hl 0 rfl) ?_
      refine lv_iload C.1 C.2.1 dX3_match_105 (lv_at hl 2 rfl) ?_
      obtain ⟨M13, hM13, hf⟩ := ob hf
      refine k_iast C hP hS (C9 C (la_Matches_complaintOf hb0)) (ar_Matches_complaintOf hb0 w L) hM13 dX3_match_107 (fun H locs hP hS => ?_)
      refine lv_aload_n C.1 C.2.1 dX3_match_108 rfl (lv_at hl 3 rfl) ?_
      refine lv_dup C.1 C.2.1 dX3_match_109 rfl ?_
      refine k_get (v := .int (M13 b0 4)) C hP (C9 C (lt_Matches hb0)) (ob_Matches hb0 w L _) rfl iX3 4 (by decide) q232 rfl dX3_match_110 ?_
      refine lv_iconst (v := 1) C.1 C.2.1 dX3_match_113 (by decide) ?_
      refine lv_iadd C.1 C.2.1 dX3_match_114 ?_
      obtain ⟨M14, hM14, hf⟩ := ob hf
      refine k_puti C hP hS (C9 C (lt_Matches hb0)) (fun row => ob_Matches hb0 w L row) rfl iX3 tyX3 tyX3_ok nmX3 4 (by decide) q232 rfl rfl (Nat.le_of_ble_eq_true rfl) rfl hM14 dX3_match_115 (fun H locs hP hS => ?_)
      exact w_X3_match_j118 C hb0 hb1 hb2 hf hA hE _ _ _ hP hS (lv_sub hl [3, 4, 5, 6, 7] rfl)
set_option maxHeartbeats 4000000 in
set_option maxRecDepth 100000 in
theorem c_X3_match (w : WT) (l : Launch) (hw : WOK w) {b0 : Nat} {b1 : Nat} {b2 : Nat} (hb0 : isMt b0) (hb1 : isSt b1) (hb2 : isEx b2) {a3 : Int32} {M : Mem} {L : Lng} {out : Mem} (hf : f_X3_match b0 b1 b2 a3 M = some out) : Met l yX3_match (Cond.code yX3_match cX3_match 8 none :: BG) ({ frames := 1, cells := 0, slots := 0, locals := 27 } : Room) (PRE w [.ref (wAd w b0), .ref (wAd w b1), .ref (wAd w b2), .int a3] M L) (QV w out L) 0 0 (wA w) := by
  refine kEnt hw (by decide +kernel) rfl (Nat.le_of_ble_eq_true rfl) ?_
  intro p e s m args below meth c C ls hl hP
  have hS : va_S (wA w) s.heap s.heap [] := va_S.rf
  have hl : lv_has ls 8 [(0, .ref (wAd w b0)), (1, .ref (wAd w b1)), (2, .ref (wAd w b2)), (3, .int a3)] := hl
  unfold f_X3_match at hf
  refine lv_aload_n C.1 C.2.1 dX3_match_0 rfl (lv_at hl 0 rfl) ?_
  refine lv_aload_n C.1 C.2.1 dX3_match_1 rfl (lv_at hl 1 rfl) ?_
  refine k_get (v := .int (M b1 5)) C hP (C9 C (lt_State hb1)) (ob_State hb1 w L _) rfl iX5 5 (by decide) q55 rfl dX3_match_2 ?_
  obtain ⟨M1, hM1, hf⟩ := ob hf
  refine k_puti C hP hS (C9 C (lt_Matches hb0)) (fun row => ob_Matches hb0 w L row) rfl iX3 tyX3 tyX3_ok nmX3 3 (by decide) q230 rfl rfl (Nat.le_of_ble_eq_true rfl) rfl hM1 dX3_match_5 (fun H locs hP hS => ?_)
  refine lv_aload_n C.1 C.2.1 dX3_match_8 rfl (lv_at hl 0 rfl) ?_
  refine lv_iconst (v := 0) C.1 C.2.1 dX3_match_9 (by decide) ?_
  obtain ⟨M2, hM2, hf⟩ := ob hf
  refine k_puti C hP hS (C9 C (lt_Matches hb0)) (fun row => ob_Matches hb0 w L row) rfl iX3 tyX3 tyX3_ok nmX3 4 (by decide) q232 rfl rfl (Nat.le_of_ble_eq_true rfl) rfl hM2 dX3_match_10 (fun H locs hP hS => ?_)
  refine lv_iconst (v := 0) C.1 C.2.1 dX3_match_13 (by decide) ?_
  refine lv_istore (lv' := [(4, .int 0), (0, .ref (wAd w b0)), (1, .ref (wAd w b1)), (2, .ref (wAd w b2)), (3, .int a3)]) C.1 C.2.1 dX3_match_14 hl (by decide) rfl (fun ls hl => ?_)
  obtain ⟨o5, ho5, hf⟩ := ob hf
  refine loop_at (w_X3_match_l16 C hb0 hb1 hb2) FU _ o5 ho5 ?_ _ _ _ hP hS (lv_sub hl [1, 2, 3, 4, 0] rfl)
  intro H locs ls hP hS hl
  refine lv_aload_n C.1 C.2.1 dX3_match_39 rfl (lv_at hl 0 rfl) ?_
  refine lv_aload_n C.1 C.2.1 dX3_match_40 rfl (lv_at hl 1 rfl) ?_
  obtain ⟨r6, hr6, hf⟩ := ob hf
  refine kcv (kV (As := [.ref (wAd w b1)]) (rest := []) C hl.1 hP hS (c_X3_putInOrder w l C.2.2.2.2.2.2.2.2 hb0 hb1 (L := L) hr6) (gV q584 q586 qp8 q8 q587) hd_X3_putInOrder (C9 C (lt_Matches hb0)) (ob_Matches hb0 w L _) rfl ⟨rfl, rfl⟩ ⟨Nat.le_of_ble_eq_true rfl, Nat.le_of_ble_eq_true rfl⟩ rfl rfl (Nat.le_of_ble_eq_true rfl) dX3_match_41 ⟨Nat.zero_le _, Nat.zero_le _⟩) hS (fun H locs hP hS => ?_)
  refine lv_iconst (v := 0) C.1 C.2.1 dX3_match_44 (by decide) ?_
  refine lv_istore (lv' := [(4, .int 0), (0, .ref (wAd w b0)), (1, .ref (wAd w b1)), (2, .ref (wAd w b2)), (3, .int a3)]) C.1 C.2.1 dX3_match_45 hl (by decide) rfl (fun ls hl => ?_)
  obtain ⟨o15, ho15, hf⟩ := ob hf
  refine loop_at (w_X3_match_l47 C hb0 hb1 hb2) FU _ o15 ho15 ?_ _ _ _ hP hS (lv_sub hl [1, 2, 3, 4, 0] rfl)
  intro H locs ls hP hS hl
  cases hf
  exact krv C hP hS dX3_match_124
theorem dX8_moved_0 : decode cX8_moved 0 = .ok (.iload_n 2, 1) := by decide +kernel
theorem dX8_moved_1 : decode cX8_moved 1 = .ok (.iconst 1, 1) := by decide +kernel
theorem dX8_moved_2 : decode cX8_moved 2 = .ok (.if_icmp .ge 7, 3) := by decide +kernel
theorem dX8_moved_5 : decode cX8_moved 5 = .ok (.iload_n 0, 1) := by decide +kernel
theorem dX8_moved_6 : decode cX8_moved 6 = .ok (.goto 13, 3) := by decide +kernel
theorem dX8_moved_9 : decode cX8_moved 9 = .ok (.iload_n 0, 1) := by decide +kernel
theorem dX8_moved_10 : decode cX8_moved 10 = .ok (.bipush 10, 2) := by decide +kernel
theorem dX8_moved_12 : decode cX8_moved 12 = .ok (.iload_n 1, 1) := by decide +kernel
theorem dX8_moved_13 : decode cX8_moved 13 = .ok (.imul, 1) := by decide +kernel
theorem dX8_moved_14 : decode cX8_moved 14 = .ok (.iload_n 0, 1) := by decide +kernel
theorem dX8_moved_15 : decode cX8_moved 15 = .ok (.isub, 1) := by decide +kernel
theorem dX8_moved_16 : decode cX8_moved 16 = .ok (.iload_n 2, 1) := by decide +kernel
theorem dX8_moved_17 : decode cX8_moved 17 = .ok (.idiv, 1) := by decide +kernel
theorem dX8_moved_18 : decode cX8_moved 18 = .ok (.iadd, 1) := by decide +kernel
theorem dX8_moved_19 : decode cX8_moved 19 = .ok (.ireturn, 1) := by decide +kernel
set_option maxHeartbeats 4000000 in
set_option maxRecDepth 100000 in
theorem c_X8_moved (w : WT) (l : Launch) (hw : WOK w) {a0 : Int32} {a1 : Int32} {a2 : Int32} {M : Mem} {L : Lng} {out : Int32} (hf : f_X8_moved a0 a1 a2 M = some out) : Met l yX8_moved (Cond.code yX8_moved cX8_moved 3 (some .int) :: BG) ({ frames := 0, cells := 0, slots := 0, locals := 0 } : Room) (PRE w [.int a0, .int a1, .int a2] M L) (QI w out M L) 0 0 (wA w) := by
  refine kEnt hw (by decide +kernel) rfl (Nat.le_of_ble_eq_true rfl) ?_
  intro p e s m args below meth c C ls hl hP
  have hS : va_S (wA w) s.heap s.heap [] := va_S.rf
  have hl : lv_has ls 3 [(0, .int a0), (1, .int a1), (2, .int a2)] := hl
  unfold f_X8_moved at hf
  refine lv_iload_n C.1 C.2.1 dX8_moved_0 rfl (lv_at hl 2 rfl) ?_
  refine lv_iconst (v := 1) C.1 C.2.1 dX8_moved_1 (by decide) ?_
  refine lv_icmp_ge (tgt := 9) C.1 C.2.1 dX8_moved_2 (by decide) (fun c1 => ?_) (fun c1 => ?_)
  · have hf := (if_pos c1).symm.trans hf
    refine lv_iload_n C.1 C.2.1 dX8_moved_9 rfl (lv_at hl 0 rfl) ?_
    refine lv_bipush (v := 10) C.1 C.2.1 dX8_moved_10 (by decide) ?_
    refine lv_iload_n C.1 C.2.1 dX8_moved_12 rfl (lv_at hl 1 rfl) ?_
    refine lv_imul C.1 C.2.1 dX8_moved_13 ?_
    refine lv_iload_n C.1 C.2.1 dX8_moved_14 rfl (lv_at hl 0 rfl) ?_
    refine lv_isub C.1 C.2.1 dX8_moved_15 ?_
    refine lv_iload_n C.1 C.2.1 dX8_moved_16 rfl (lv_at hl 2 rfl) ?_
    obtain ⟨x2, hx2, hf⟩ := ob hf
    refine k_idiv C hx2 dX8_moved_17 ?_
    refine lv_iadd C.1 C.2.1 dX8_moved_18 ?_
    cases hf
    exact kri C hP hS dX8_moved_19
  · have hf := (if_neg c1).symm.trans hf
    refine lv_iload_n C.1 C.2.1 dX8_moved_5 rfl (lv_at hl 0 rfl) ?_
    refine lv_goto (tgt := 19) C.1 C.2.1 dX8_moved_6 (by decide) ?_
    cases hf
    exact kri C hP hS dX8_moved_19
theorem dX4_moveArms_0 : decode cX4_moveArms 0 = .ok (.aload_n 0, 1) := by decide +kernel
theorem dX4_moveArms_1 : decode cX4_moveArms 1 = .ok (.aload_n 1, 1) := by decide +kernel
theorem dX4_moveArms_2 : decode cX4_moveArms 2 = .ok (.getfield 25, 3) := by decide +kernel
theorem dX4_moveArms_5 : decode cX4_moveArms 5 = .ok (.putfield 30, 3) := by decide +kernel
theorem dX4_moveArms_8 : decode cX4_moveArms 8 = .ok (.iconst 0, 1) := by decide +kernel
theorem dX4_moveArms_9 : decode cX4_moveArms 9 = .ok (.istore_n 3, 1) := by decide +kernel
theorem dX4_moveArms_10 : decode cX4_moveArms 10 = .ok (.iconst 0, 1) := by decide +kernel
theorem dX4_moveArms_11 : decode cX4_moveArms 11 = .ok (.istore 4, 2) := by decide +kernel
theorem dX4_moveArms_13 : decode cX4_moveArms 13 = .ok (.iconst 0, 1) := by decide +kernel
theorem dX4_moveArms_14 : decode cX4_moveArms 14 = .ok (.istore 5, 2) := by decide +kernel
theorem dX4_moveArms_16 : decode cX4_moveArms 16 = .ok (.iload 5, 2) := by decide +kernel
theorem dX4_moveArms_18 : decode cX4_moveArms 18 = .ok (.aload_n 0, 1) := by decide +kernel
theorem dX4_moveArms_19 : decode cX4_moveArms 19 = .ok (.getfield 30, 3) := by decide +kernel
theorem dX4_moveArms_22 : decode cX4_moveArms 22 = .ok (.if_icmp .ge 60, 3) := by decide +kernel
theorem dX4_moveArms_25 : decode cX4_moveArms 25 = .ok (.iload_n 3, 1) := by decide +kernel
theorem dX4_moveArms_26 : decode cX4_moveArms 26 = .ok (.aload_n 1, 1) := by decide +kernel
theorem dX4_moveArms_27 : decode cX4_moveArms 27 = .ok (.getfield 33, 3) := by decide +kernel
theorem dX4_moveArms_30 : decode cX4_moveArms 30 = .ok (.iload 5, 2) := by decide +kernel
theorem dX4_moveArms_32 : decode cX4_moveArms 32 = .ok (.iaload, 1) := by decide +kernel
theorem dX4_moveArms_33 : decode cX4_moveArms 33 = .ok (.aload_n 2, 1) := by decide +kernel
theorem dX4_moveArms_34 : decode cX4_moveArms 34 = .ok (.bipush 8, 2) := by decide +kernel
theorem dX4_moveArms_36 : decode cX4_moveArms 36 = .ok (.iaload, 1) := by decide +kernel
theorem dX4_moveArms_37 : decode cX4_moveArms 37 = .ok (.invokestatic 36, 3) := by decide +kernel
theorem dX4_moveArms_40 : decode cX4_moveArms 40 = .ok (.istore_n 3, 1) := by decide +kernel
theorem dX4_moveArms_41 : decode cX4_moveArms 41 = .ok (.iload 4, 2) := by decide +kernel
theorem dX4_moveArms_43 : decode cX4_moveArms 43 = .ok (.aload_n 1, 1) := by decide +kernel
theorem dX4_moveArms_44 : decode cX4_moveArms 44 = .ok (.getfield 33, 3) := by decide +kernel
theorem dX4_moveArms_47 : decode cX4_moveArms 47 = .ok (.iload 5, 2) := by decide +kernel
theorem dX4_moveArms_49 : decode cX4_moveArms 49 = .ok (.iaload, 1) := by decide +kernel
theorem dX4_moveArms_50 : decode cX4_moveArms 50 = .ok (.aload_n 2, 1) := by decide +kernel
theorem dX4_moveArms_51 : decode cX4_moveArms 51 = .ok (.bipush 9, 2) := by decide +kernel
theorem dX4_moveArms_53 : decode cX4_moveArms 53 = .ok (.iaload, 1) := by decide +kernel
theorem dX4_moveArms_54 : decode cX4_moveArms 54 = .ok (.invokestatic 36, 3) := by decide +kernel
theorem dX4_moveArms_57 : decode cX4_moveArms 57 = .ok (.istore 4, 2) := by decide +kernel
theorem dX4_moveArms_59 : decode cX4_moveArms 59 = .ok (.aload_n 0, 1) := by decide +kernel
theorem dX4_moveArms_60 : decode cX4_moveArms 60 = .ok (.getfield 9, 3) := by decide +kernel
theorem dX4_moveArms_63 : decode cX4_moveArms 63 = .ok (.iload 5, 2) := by decide +kernel
theorem dX4_moveArms_65 : decode cX4_moveArms 65 = .ok (.iload_n 3, 1) := by decide +kernel
theorem dX4_moveArms_66 : decode cX4_moveArms 66 = .ok (.iastore, 1) := by decide +kernel
theorem dX4_moveArms_67 : decode cX4_moveArms 67 = .ok (.aload_n 0, 1) := by decide +kernel
theorem dX4_moveArms_68 : decode cX4_moveArms 68 = .ok (.getfield 15, 3) := by decide +kernel
theorem dX4_moveArms_71 : decode cX4_moveArms 71 = .ok (.iload 5, 2) := by decide +kernel
theorem dX4_moveArms_73 : decode cX4_moveArms 73 = .ok (.iload 4, 2) := by decide +kernel
theorem dX4_moveArms_75 : decode cX4_moveArms 75 = .ok (.iastore, 1) := by decide +kernel
theorem dX4_moveArms_76 : decode cX4_moveArms 76 = .ok (.iinc 5 1, 3) := by decide +kernel
theorem dX4_moveArms_79 : decode cX4_moveArms 79 = .ok (.goto (-63), 3) := by decide +kernel
theorem dX4_moveArms_82 : decode cX4_moveArms 82 = .ok (.return_, 1) := by decide +kernel
set_option maxHeartbeats 4000000 in
set_option maxRecDepth 100000 in
theorem w_X4_moveArms_l16 {b0 : Nat} {b1 : Nat} {g2 : Nat} {w : WT} {l : Launch} {p : Program} {e : Env} {s : State} {m : MethodId} {args : Array Value} {below : List Frame} {meth : Method} {c : Code} (C : KC w p s m args meth c cX4_moveArms 6 RX4 none) (hb0 : isMn b0) (hb1 : isSt b1) (hg2 : isS g2) {L : Lng} {Q : State → Prop} (z : Int32 × Int32 × Int32 × Mem) (o : (Int32 × Int32 × Int32 × Mem) ⊕ (Mem)) (hf : f_X4_moveArms_l16 b0 b1 g2 z = some o) (hA : ∀ z, o = .inl z → AtL w p l e ({ frames := 1, cells := 0, slots := 0, locals := 22 } : Room) s m args below meth c Q 6 16 z.2.2.2 L [(0, .ref (wAd w b0)), (1, .ref (wAd w b1)), (2, .ref (wAd w g2)), (3, .int z.1), (4, .int z.2.1), (5, .int z.2.2.1)] []) (hE : ∀ y, o = .inr y → AtL w p l e ({ frames := 1, cells := 0, slots := 0, locals := 22 } : Room) s m args below meth c Q 6 82 y L [] []) : AtL w p l e ({ frames := 1, cells := 0, slots := 0, locals := 22 } : Room) s m args below meth c Q 6 16 z.2.2.2 L [(0, .ref (wAd w b0)), (1, .ref (wAd w b1)), (2, .ref (wAd w g2)), (3, .int z.1), (4, .int z.2.1), (5, .int z.2.2.1)] [] := by
  intro H locs ls hP hS hl
  unfold f_X4_moveArms_l16 at hf
  refine lv_iload C.1 C.2.1 dX4_moveArms_16 (lv_at hl 5 rfl) ?_
  refine lv_aload_n C.1 C.2.1 dX4_moveArms_18 rfl (lv_at hl 0 rfl) ?_
  refine k_get (v := .int (z.2.2.2 b0 3)) C hP (C9 C (lt_Minutes hb0)) (ob_Minutes hb0 w L _) rfl iX4 3 (by decide) q146 rfl dX4_moveArms_19 ?_
  refine lv_icmp_ge (tgt := 82) C.1 C.2.1 dX4_moveArms_22 (by decide) (fun c2 => ?_) (fun c2 => ?_)
  · have hf := (if_pos c2).symm.trans hf
    cases hf
    exact hE _ rfl _ _ _ hP hS (lv_sub hl [] rfl)
  · have hf := (if_neg c2).symm.trans hf
    refine lv_iload_n C.1 C.2.1 dX4_moveArms_25 rfl (lv_at hl 3 rfl) ?_
    refine lv_aload_n C.1 C.2.1 dX4_moveArms_26 rfl (lv_at hl 1 rfl) ?_
    refine k_get (v := .ref (wAd w (b1 + 1))) C hP (C9 C (lt_State hb1)) (ob_State hb1 w L _) rfl iX5 0 (by decide) q42 rfl dX4_moveArms_27 ?_
    refine lv_iload C.1 C.2.1 dX4_moveArms_30 (lv_at hl 5 rfl) ?_
    obtain ⟨x3, hx3, hf⟩ := ob hf
    refine k_iald C hP (C9 C (la_State_levels hb1)) (ar_State_levels hb1 w L _) hx3 dX4_moveArms_32 ?_
    refine lv_aload_n C.1 C.2.1 dX4_moveArms_33 rfl (lv_at hl 2 rfl) ?_
    refine lv_bipush (v := 8) C.1 C.2.1 dX4_moveArms_34 (by decide) ?_
    obtain ⟨x4, hx4, hf⟩ := ob hf
    refine k_iald C hP (C9 C (la_S hg2)) (ar_S hg2 w L _) hx4 dX4_moveArms_36 ?_
    obtain ⟨r5, hr5, hf⟩ := ob hf
    refine kci (kSN (As := [.int z.1, .int x3, .int x4]) (rest := []) C hl.1 hP hS (c_X8_moved w l C.2.2.2.2.2.2.2.2 (L := L) hr5) q541 nw6 q1 q540 hd_X8_moved ⟨rfl, rfl⟩ ⟨Nat.le_of_ble_eq_true rfl, Nat.le_of_ble_eq_true rfl⟩ rfl rfl (Nat.le_of_ble_eq_true rfl) dX4_moveArms_37 ⟨Nat.zero_le _, Nat.zero_le _⟩) hS (fun H locs hP hS => ?_)
    refine lv_istore_n (lv' := [(3, .int r5), (0, .ref (wAd w b0)), (1, .ref (wAd w b1)), (2, .ref (wAd w g2)), (4, .int z.2.1), (5, .int z.2.2.1)]) C.1 C.2.1 dX4_moveArms_40 rfl hl (by decide) rfl (fun ls hl => ?_)
    refine lv_iload C.1 C.2.1 dX4_moveArms_41 (lv_at hl 4 rfl) ?_
    refine lv_aload_n C.1 C.2.1 dX4_moveArms_43 rfl (lv_at hl 2 rfl) ?_
    refine k_get (v := .ref (wAd w (b1 + 1))) C hP (C9 C (lt_State hb1)) (ob_State hb1 w L _) rfl iX5 0 (by decide) q42 rfl dX4_moveArms_44 ?_
    refine lv_iload C.1 C.2.1 dX4_moveArms_47 (lv_at hl 5 rfl) ?_
    obtain ⟨x6, hx6, hf⟩ := ob hf
    refine k_iald C hP (C9 C (la_State_levels hb1)) (ar_State_levels hb1 w L _) hx6 dX4_moveArms_49 ?_
    refine lv_aload_n C.1 C.2.1 dX4_moveArms_50 rfl (lv_at hl 3 rfl) ?_
    refine lv_bipush (v := 9) C.1 C.2.1 dX4_moveArms_51 (by decide) ?_
    obtain ⟨x7, hx7, hf⟩ := ob hf
    refine k_iald C hP (C9 C (la_S hg2)) (ar_S hg2 w L _) hx7 dX4_moveArms_53 ?_
    obtain ⟨r8, hr8, hf⟩ := ob hf
    refine kci (kSN (As := [.int z.2.1, .int x6, .int x7]) (rest := []) C hl.1 hP hS (c_X8_moved w l C.2.2.2.2.2.2.2.2 (L := L) hr8) q541 nw6 q1 q540 hd_X8_moved ⟨rfl, rfl⟩ ⟨Nat.le_of_ble_eq_true rfl, Nat.le_of_ble_eq_true rfl⟩ rfl rfl (Nat.le_of_ble_eq_true rfl) dX4_moveArms_54 ⟨Nat.zero_le _, Nat.zero_le _⟩) hS (fun H locs hP hS => ?_)
    refine lv_istore (lv' := [(4, .int r8), (3, .int r5), (0, .ref (wAd w b0)), (1, .ref (wAd w b1)), (2, .ref (wAd w g2)), (5, .int z.2.2.1)]) C.1 C.2.1 dX4_moveArms_57 hl (by decide) rfl (fun ls hl => ?_)
    refine lv_aload_n C.1 C.2.1 dX4_moveArms_59 rfl (lv_at hl 2 rfl) ?_
    refine k_get (v := .ref (wAd w (b0 + 1))) C hP (C9 C (lt_Minutes hb0)) (ob_Minutes hb0 w L _) rfl iX4 0 (by decide) q135 rfl dX4_moveArms_60 ?_
    refine lv_iload C.1 C.2.1 dX4_moveArms_63 (lv_at hl 5 rfl) ?_
    refine lv_iload_n C.1 C.2.1 dX4_moveArms_65 rfl (lv_at hl 1 rfl) ?_
    obtain ⟨M9, hM9, hf⟩ := ob hf
    refine k_iast C hP hS (C9 C (la_Minutes_fast hb0)) (ar_Minutes_fast hb0 w L) hM9 dX4_moveArms_66 (fun H locs hP hS => ?_)
    refine lv_aload_n C.1 C.2.1 dX4_moveArms_67 rfl (lv_at hl 2 rfl) ?_
    refine k_get (v := .ref (wAd w (b0 + 2))) C hP (C9 C (lt_Minutes hb0)) (ob_Minutes hb0 w L _) rfl iX4 1 (by decide) q139 rfl dX4_moveArms_68 ?_
    refine lv_iload C.1 C.2.1 dX4_moveArms_71 (lv_at hl 5 rfl) ?_
    refine lv_iload C.1 C.2.1 dX4_moveArms_73 (lv_at hl 0 rfl) ?_
    obtain ⟨M10, hM10, hf⟩ := ob hf
    refine k_iast C hP hS (C9 C (la_Minutes_slow hb0)) (ar_Minutes_slow hb0 w L) hM10 dX4_moveArms_75 (fun H locs hP hS => ?_)
    refine lv_iinc (v := (z.2.2.1 + 1)) (lv' := [(5, .int (z.2.2.1 + 1)), (4, .int r8), (3, .int r5), (0, .ref (wAd w b0)), (1, .ref (wAd w b1)), (2, .ref (wAd w g2))]) C.1 C.2.1 dX4_moveArms_76 hl (k := 5) rfl rfl (by decide) rfl (fun ls hl => ?_)
    refine lv_goto (tgt := 16) C.1 C.2.1 dX4_moveArms_79 (by decide) ?_
    cases hf
    exact hA _ rfl _ _ _ hP hS (lv_sub hl [3, 4, 5, 2, 1, 0] rfl)
set_option maxHeartbeats 4000000 in
set_option maxRecDepth 100000 in
theorem c_X4_moveArms (w : WT) (l : Launch) (hw : WOK w) {b0 : Nat} {b1 : Nat} {g2 : Nat} (hb0 : isMn b0) (hb1 : isSt b1) (hg2 : isS g2) {M : Mem} {L : Lng} {out : Mem} (hf : f_X4_moveArms b0 b1 g2 M = some out) : Met l yX4_moveArms (Cond.code yX4_moveArms cX4_moveArms 6 none :: BG) ({ frames := 1, cells := 0, slots := 0, locals := 22 } : Room) (PRE w [.ref (wAd w b0), .ref (wAd w b1), .ref (wAd w g2)] M L) (QV w out L) 0 0 (wA w) := by
  refine kEnt hw (by decide +kernel) rfl (Nat.le_of_ble_eq_true rfl) ?_
  intro p e s m args below meth c C ls hl hP
  have hS : va_S (wA w) s.heap s.heap [] := va_S.rf
  have hl : lv_has ls 6 [(0, .ref (wAd w b0)), (1, .ref (wAd w b1)), (2, .ref (wAd w g2))] := hl
  unfold f_X4_moveArms at hf
  refine lv_aload_n C.1 C.2.1 dX4_moveArms_0 rfl (lv_at hl 0 rfl) ?_
  refine lv_aload_n C.1 C.2.1 dX4_moveArms_1 rfl (lv_at hl 1 rfl) ?_
  refine k_get (v := .int (M b1 4)) C hP (C9 C (lt_State hb1)) (ob_State hb1 w L _) rfl iX5 4 (by decide) q52 rfl dX4_moveArms_2 ?_
  obtain ⟨M1, hM1, hf⟩ := ob hf
  refine k_puti C hP hS (C9 C (lt_Minutes hb0)) (fun row => ob_Minutes hb0 w L row) rfl iX4 tyX4 tyX4_ok nmX4 3 (by decide) q146 rfl rfl (Nat.le_of_ble_eq_true rfl) rfl hM1 dX4_moveArms_5 (fun H locs hP hS => ?_)
  refine lv_iconst (v := 0) C.1 C.2.1 dX4_moveArms_8 (by decide) ?_
  refine lv_istore_n (lv' := [(3, .int 0), (0, .ref (wAd w b0)), (1, .ref (wAd w b1)), (2, .ref (wAd w g2))]) C.1 C.2.1 dX4_moveArms_9 rfl hl (by decide) rfl (fun ls hl => ?_)
  refine lv_iconst (v := 0) C.1 C.2.1 dX4_moveArms_10 (by decide) ?_
  refine lv_istore (lv' := [(4, .int 0), (3, .int 0), (0, .ref (wAd w b0)), (1, .ref (wAd w b1)), (2, .ref (wAd w g2))]) C.1 C.2.1 dX4_moveArms_11 hl (by decide) rfl (fun ls hl => ?_)
  refine lv_iconst (v := 0) C.1 C.2.1 dX4_moveArms_13 (by decide) ?_
  refine lv_istore (lv' := [(5, .int 0), (4, .int 0), (3, .int 0), (0, .ref (wAd w b0)), (1, .ref (wAd w b1)), (2, .ref (wAd w g2))]) C.1 C.2.1 dX4_moveArms_14 hl (by decide) rfl (fun ls hl => ?_)
  obtain ⟨o11, ho11, hf⟩ := ob hf
  refine loop_at (w_X4_moveArms_l16 C hb0 hb1 hg2) FU _ o11 ho11 ?_ _ _ _ hP hS (lv_sub hl [3, 4, 5, 2, 1, 0] rfl)
  intro H locs ls hP hS hl
  cases hf
  exact krv C hP hS dX4_moveArms_82
theorem dX4_isSoonAfterWind_0 : decode cX4_isSoonAfterWind 0 = .ok (.aload_n 0, 1) := by decide +kernel
theorem dX4_isSoonAfterWind_1 : decode cX4_isSoonAfterWind 1 = .ok (.getfield 21, 3) := by decide +kernel
theorem dX4_isSoonAfterWind_4 : decode cX4_isSoonAfterWind 4 = .ok (.iconst (-1), 1) := by decide +kernel
theorem dX4_isSoonAfterWind_5 : decode cX4_isSoonAfterWind 5 = .ok (.if_icmp .eq 17, 3) := by decide +kernel
theorem dX4_isSoonAfterWind_8 : decode cX4_isSoonAfterWind 8 = .ok (.iload_n 1, 1) := by decide +kernel
theorem dX4_isSoonAfterWind_9 : decode cX4_isSoonAfterWind 9 = .ok (.aload_n 0, 1) := by decide +kernel
theorem dX4_isSoonAfterWind_10 : decode cX4_isSoonAfterWind 10 = .ok (.getfield 21, 3) := by decide +kernel
theorem dX4_isSoonAfterWind_13 : decode cX4_isSoonAfterWind 13 = .ok (.isub, 1) := by decide +kernel
theorem dX4_isSoonAfterWind_14 : decode cX4_isSoonAfterWind 14 = .ok (.iload_n 2, 1) := by decide +kernel
theorem dX4_isSoonAfterWind_15 : decode cX4_isSoonAfterWind 15 = .ok (.if_icmp .gt 7, 3) := by decide +kernel
theorem dX4_isSoonAfterWind_18 : decode cX4_isSoonAfterWind 18 = .ok (.iconst 1, 1) := by decide +kernel
theorem dX4_isSoonAfterWind_19 : decode cX4_isSoonAfterWind 19 = .ok (.goto 4, 3) := by decide +kernel
theorem dX4_isSoonAfterWind_22 : decode cX4_isSoonAfterWind 22 = .ok (.iconst 0, 1) := by decide +kernel
theorem dX4_isSoonAfterWind_23 : decode cX4_isSoonAfterWind 23 = .ok (.ireturn, 1) := by decide +kernel
set_option maxHeartbeats 4000000 in
set_option maxRecDepth 100000 in
theorem c_X4_isSoonAfterWind (w : WT) (l : Launch) (hw : WOK w) {b0 : Nat} (hb0 : isMn b0) {a1 : Int32} {a2 : Int32} {M : Mem} {L : Lng} {out : Int32} (hf : f_X4_isSoonAfterWind b0 a1 a2 M = some out) : Met l yX4_isSoonAfterWind (Cond.code yX4_isSoonAfterWind cX4_isSoonAfterWind 3 (some .boolean) :: BG) ({ frames := 0, cells := 0, slots := 0, locals := 0 } : Room) (PRE w [.ref (wAd w b0), .int a1, .int a2] M L) (QI w out M L) 0 0 (wA w) := by
  refine kEnt hw (by decide +kernel) rfl (Nat.le_of_ble_eq_true rfl) ?_
  intro p e s m args below meth c C ls hl hP
  have hS : va_S (wA w) s.heap s.heap [] := va_S.rf
  have hl : lv_has ls 3 [(0, .ref (wAd w b0)), (1, .int a1), (2, .int a2)] := hl
  unfold f_X4_isSoonAfterWind at hf
  refine lv_aload_n C.1 C.2.1 dX4_isSoonAfterWind_0 rfl (lv_at hl 0 rfl) ?_
  refine k_get (v := .int (M b0 7)) C hP (C9 C (lt_Minutes hb0)) (ob_Minutes hb0 w L _) rfl iX4 7 (by decide) q157 rfl dX4_isSoonAfterWind_1 ?_
  refine lv_iconst (v := (-1)) C.1 C.2.1 dX4_isSoonAfterWind_4 (by decide) ?_
  refine lv_icmp_eq (tgt := 22) C.1 C.2.1 dX4_isSoonAfterWind_5 (by decide) (fun c1 => ?_) (fun c1 => ?_)
  · have hf := (if_pos c1).symm.trans hf
    refine lv_iconst (v := 0) C.1 C.2.1 dX4_isSoonAfterWind_22 (by decide) ?_
    cases hf
    exact krz C hP hS bz0 dX4_isSoonAfterWind_23
  · have hf := (if_neg c1).symm.trans hf
    refine lv_iload_n C.1 C.2.1 dX4_isSoonAfterWind_8 rfl (lv_at hl 1 rfl) ?_
    refine lv_aload_n C.1 C.2.1 dX4_isSoonAfterWind_9 rfl (lv_at hl 0 rfl) ?_
    refine k_get (v := .int (M b0 7)) C hP (C9 C (lt_Minutes hb0)) (ob_Minutes hb0 w L _) rfl iX4 7 (by decide) q157 rfl dX4_isSoonAfterWind_10 ?_
    refine lv_isub C.1 C.2.1 dX4_isSoonAfterWind_13 ?_
    refine lv_iload_n C.1 C.2.1 dX4_isSoonAfterWind_14 rfl (lv_at hl 2 rfl) ?_
    refine lv_icmp_gt (tgt := 22) C.1 C.2.1 dX4_isSoonAfterWind_15 (by decide) (fun c2 => ?_) (fun c2 => ?_)
    · have hf := (if_pos c2).symm.trans hf
      refine lv_iconst (v := 0) C.1 C.2.1 dX4_isSoonAfterWind_22 (by decide) ?_
      cases hf
      exact krz C hP hS bz0 dX4_isSoonAfterWind_23
    · have hf := (if_neg c2).symm.trans hf
      refine lv_iconst (v := 1) C.1 C.2.1 dX4_isSoonAfterWind_18 (by decide) ?_
      refine lv_goto (tgt := 23) C.1 C.2.1 dX4_isSoonAfterWind_19 (by decide) ?_
      cases hf
      exact krz C hP hS bz1 dX4_isSoonAfterWind_23
theorem dX4_judge_0 : decode cX4_judge 0 = .ok (.aload_n 0, 1) := by decide +kernel
theorem dX4_judge_1 : decode cX4_judge 1 = .ok (.iconst (-1), 1) := by decide +kernel
theorem dX4_judge_2 : decode cX4_judge 2 = .ok (.putfield 21, 3) := by decide +kernel
theorem dX4_judge_5 : decode cX4_judge 5 = .ok (.iconst 0, 1) := by decide +kernel
theorem dX4_judge_6 : decode cX4_judge 6 = .ok (.istore_n 3, 1) := by decide +kernel
theorem dX4_judge_7 : decode cX4_judge 7 = .ok (.iload_n 3, 1) := by decide +kernel
theorem dX4_judge_8 : decode cX4_judge 8 = .ok (.aload_n 0, 1) := by decide +kernel
theorem dX4_judge_9 : decode cX4_judge 9 = .ok (.getfield 30, 3) := by decide +kernel
theorem dX4_judge_12 : decode cX4_judge 12 = .ok (.if_icmp .ge 97, 3) := by decide +kernel
theorem dX4_judge_15 : decode cX4_judge 15 = .ok (.aload_n 1, 1) := by decide +kernel
theorem dX4_judge_16 : decode cX4_judge 16 = .ok (.getfield 40, 3) := by decide +kernel
theorem dX4_judge_19 : decode cX4_judge 19 = .ok (.iload_n 3, 1) := by decide +kernel
theorem dX4_judge_20 : decode cX4_judge 20 = .ok (.iaload, 1) := by decide +kernel
theorem dX4_judge_21 : decode cX4_judge 21 = .ok (.aload_n 2, 1) := by decide +kernel
theorem dX4_judge_22 : decode cX4_judge 22 = .ok (.iconst 4, 1) := by decide +kernel
theorem dX4_judge_23 : decode cX4_judge 23 = .ok (.iaload, 1) := by decide +kernel
theorem dX4_judge_24 : decode cX4_judge 24 = .ok (.if_icmp .lt 18, 3) := by decide +kernel
theorem dX4_judge_27 : decode cX4_judge 27 = .ok (.aload_n 0, 1) := by decide +kernel
theorem dX4_judge_28 : decode cX4_judge 28 = .ok (.getfield 18, 3) := by decide +kernel
theorem dX4_judge_31 : decode cX4_judge 31 = .ok (.iload_n 3, 1) := by decide +kernel
theorem dX4_judge_32 : decode cX4_judge 32 = .ok (.iconst 1, 1) := by decide +kernel
theorem dX4_judge_33 : decode cX4_judge 33 = .ok (.iastore, 1) := by decide +kernel
theorem dX4_judge_34 : decode cX4_judge 34 = .ok (.aload_n 0, 1) := by decide +kernel
theorem dX4_judge_35 : decode cX4_judge 35 = .ok (.iload_n 3, 1) := by decide +kernel
theorem dX4_judge_36 : decode cX4_judge 36 = .ok (.putfield 21, 3) := by decide +kernel
theorem dX4_judge_39 : decode cX4_judge 39 = .ok (.goto 64, 3) := by decide +kernel
theorem dX4_judge_42 : decode cX4_judge 42 = .ok (.aload_n 0, 1) := by decide +kernel
theorem dX4_judge_43 : decode cX4_judge 43 = .ok (.iload_n 3, 1) := by decide +kernel
theorem dX4_judge_44 : decode cX4_judge 44 = .ok (.aload_n 2, 1) := by decide +kernel
theorem dX4_judge_45 : decode cX4_judge 45 = .ok (.iconst 5, 1) := by decide +kernel
theorem dX4_judge_46 : decode cX4_judge 46 = .ok (.iaload, 1) := by decide +kernel
theorem dX4_judge_47 : decode cX4_judge 47 = .ok (.invokevirtual 43, 3) := by decide +kernel
theorem dX4_judge_50 : decode cX4_judge 50 = .ok (.ifCond .eq 13, 3) := by decide +kernel
theorem dX4_judge_53 : decode cX4_judge 53 = .ok (.aload_n 0, 1) := by decide +kernel
theorem dX4_judge_54 : decode cX4_judge 54 = .ok (.getfield 18, 3) := by decide +kernel
theorem dX4_judge_57 : decode cX4_judge 57 = .ok (.iload_n 3, 1) := by decide +kernel
theorem dX4_judge_58 : decode cX4_judge 58 = .ok (.iconst 2, 1) := by decide +kernel
theorem dX4_judge_59 : decode cX4_judge 59 = .ok (.iastore, 1) := by decide +kernel
theorem dX4_judge_60 : decode cX4_judge 60 = .ok (.goto 43, 3) := by decide +kernel
theorem dX4_judge_63 : decode cX4_judge 63 = .ok (.aload_n 0, 1) := by decide +kernel
theorem dX4_judge_64 : decode cX4_judge 64 = .ok (.getfield 15, 3) := by decide +kernel
theorem dX4_judge_67 : decode cX4_judge 67 = .ok (.iload_n 3, 1) := by decide +kernel
theorem dX4_judge_68 : decode cX4_judge 68 = .ok (.iaload, 1) := by decide +kernel
theorem dX4_judge_69 : decode cX4_judge 69 = .ok (.bipush 10, 2) := by decide +kernel
theorem dX4_judge_71 : decode cX4_judge 71 = .ok (.iload_n 3, 1) := by decide +kernel
theorem dX4_judge_72 : decode cX4_judge 72 = .ok (.aload_n 2, 1) := by decide +kernel
theorem dX4_judge_73 : decode cX4_judge 73 = .ok (.invokestatic 47, 3) := by decide +kernel
theorem dX4_judge_76 : decode cX4_judge 76 = .ok (.imul, 1) := by decide +kernel
theorem dX4_judge_77 : decode cX4_judge 77 = .ok (.if_icmp .le 7, 3) := by decide +kernel
theorem dX4_judge_80 : decode cX4_judge 80 = .ok (.iconst 1, 1) := by decide +kernel
theorem dX4_judge_81 : decode cX4_judge 81 = .ok (.goto 4, 3) := by decide +kernel
theorem dX4_judge_84 : decode cX4_judge 84 = .ok (.iconst 0, 1) := by decide +kernel
theorem dX4_judge_85 : decode cX4_judge 85 = .ok (.istore 4, 2) := by decide +kernel
theorem dX4_judge_87 : decode cX4_judge 87 = .ok (.aload_n 0, 1) := by decide +kernel
theorem dX4_judge_88 : decode cX4_judge 88 = .ok (.getfield 18, 3) := by decide +kernel
theorem dX4_judge_91 : decode cX4_judge 91 = .ok (.iload_n 3, 1) := by decide +kernel
theorem dX4_judge_92 : decode cX4_judge 92 = .ok (.iload 4, 2) := by decide +kernel
theorem dX4_judge_94 : decode cX4_judge 94 = .ok (.ifCond .eq 7, 3) := by decide +kernel
theorem dX4_judge_97 : decode cX4_judge 97 = .ok (.iconst 0, 1) := by decide +kernel
theorem dX4_judge_98 : decode cX4_judge 98 = .ok (.goto 4, 3) := by decide +kernel
theorem dX4_judge_101 : decode cX4_judge 101 = .ok (.iconst 3, 1) := by decide +kernel
theorem dX4_judge_102 : decode cX4_judge 102 = .ok (.iastore, 1) := by decide +kernel
theorem dX4_judge_103 : decode cX4_judge 103 = .ok (.iinc 3 1, 3) := by decide +kernel
theorem dX4_judge_106 : decode cX4_judge 106 = .ok (.goto (-99), 3) := by decide +kernel
theorem dX4_judge_109 : decode cX4_judge 109 = .ok (.return_, 1) := by decide +kernel
set_option maxHeartbeats 4000000 in
set_option maxRecDepth 100000 in
theorem w_X4_judge_j103 {b0 : Nat} {b1 : Nat} {g2 : Nat} {w : WT} {l : Launch} {p : Program} {e : Env} {s : State} {m : MethodId} {args : Array Value} {below : List Frame} {meth : Method} {c : Code} (C : KC w p s m args meth c cX4_judge 5 RX4 none) (hb0 : isMn b0) (hb1 : isSt b1) (hg2 : isS g2) {v3 : Int32} {M : Mem} {L : Lng} {Q : State → Prop} {o : (Int32 × Mem) ⊕ (Mem)} (hf : f_X4_judge_j103 b0 b1 g2 v3 M = some o) (hA : ∀ z, o = .inl z → AtL w p l e ({ frames := 3, cells := 0, slots := 0, locals := 64 } : Room) s m args below meth c Q 5 7 z.2 L [(0, .ref (wAd w b0)), (1, .ref (wAd w b1)), (2, .ref (wAd w g2)), (3, .int z.1)] []) (hE : ∀ y, o = .inr y → AtL w p l e ({ frames := 3, cells := 0, slots := 0, locals := 64 } : Room) s m args below meth c Q 5 109 y L [] []) : AtL w p l e ({ frames := 3, cells := 0, slots := 0, locals := 64 } : Room) s m args below meth c Q 5 103 M L [(0, .ref (wAd w b0)), (1, .ref (wAd w b1)), (2, .ref (wAd w g2)), (3, .int v3)] [] := by
  intro H locs ls hP hS hl
  unfold f_X4_judge_j103 at hf
  refine lv_iinc (v := (v3 + 1)) (lv' := [(3, .int (v3 + 1)), (0, .ref (wAd w b0)), (1, .ref (wAd w b1)), (2, .ref (wAd w g2))]) C.1 C.2.1 dX4_judge_103 hl (k := 3) rfl rfl (by decide) rfl (fun ls hl => ?_)
  refine lv_goto (tgt := 7) C.1 C.2.1 dX4_judge_106 (by decide) ?_
  cases hf
  exact hA _ rfl _ _ _ hP hS (lv_sub hl [1, 2, 3, 0] rfl)
set_option maxHeartbeats 4000000 in
set_option maxRecDepth 100000 in
theorem w_X4_judge_j102 {b0 : Nat} {b1 : Nat} {g2 : Nat} {w : WT} {l : Launch} {p : Program} {e : Env} {s : State} {m : MethodId} {args : Array Value} {below : List Frame} {meth : Method} {c : Code} (C : KC w p s m args meth c cX4_judge 5 RX4 none) (hb0 : isMn b0) (hb1 : isSt b1) (hg2 : isS g2) {v3 : Int32} {s1 : Int32} {s2 : Int32} {M : Mem} {L : Lng} {Q : State → Prop} {o : (Int32 × Mem) ⊕ (Mem)} (hf : f_X4_judge_j102 b0 b1 g2 v3 s1 s2 M = some o) (hA : ∀ z, o = .inl z → AtL w p l e ({ frames := 3, cells := 0, slots := 0, locals := 64 } : Room) s m args below meth c Q 5 7 z.2 L [(0, .ref (wAd w b0)), (1, .ref (wAd w b1)), (2, .ref (wAd w g2)), (3, .int z.1)] []) (hE : ∀ y, o = .inr y → AtL w p l e ({ frames := 3, cells := 0, slots := 0, locals := 64 } : Room) s m args below meth c Q 5 109 y L [] []) : AtL w p l e ({ frames := 3, cells := 0, slots := 0, locals := 64 } : Room) s m args below meth c Q 5 102 M L [(0, .ref (wAd w b0)), (1, .ref (wAd w b1)), (2, .ref (wAd w g2)), (3, .int v3)] [.int s2, .int s1, .ref (wAd w (b0 + 3))] := by
  intro H locs ls hP hS hl
  unfold f_X4_judge_j102 at hf
  obtain ⟨M13, hM13, hf⟩ := ob hf
  refine k_iast C hP hS (C9 C (la_Minutes_why hb0)) (ar_Minutes_why hb0 w L) hM13 dX4_judge_102 (fun H locs hP hS => ?_)
  exact w_X4_judge_j103 C hb0 hb1 hg2 hf hA hE _ _ _ hP hS hl
set_option maxHeartbeats 4000000 in
set_option maxRecDepth 100000 in
theorem w_X4_judge_j85 {b0 : Nat} {b1 : Nat} {g2 : Nat} {w : WT} {l : Launch} {p : Program} {e : Env} {s : State} {m : MethodId} {args : Array Value} {below : List Frame} {meth : Method} {c : Code} (C : KC w p s m args meth c cX4_judge 5 RX4 none) (hb0 : isMn b0) (hb1 : isSt b1) (hg2 : isS g2) {v3 : Int32} {s0 : Int32} {M : Mem} {L : Lng} {Q : State → Prop} {o : (Int32 × Mem) ⊕ (Mem)} (hf : f_X4_judge_j85 b0 b1 g2 v3 s0 M = some o) (hA : ∀ z, o = .inl z → AtL w p l e ({ frames := 3, cells := 0, slots := 0, locals := 64 } : Room) s m args below meth c Q 5 7 z.2 L [(0, .ref (wAd w b0)), (1, .ref (wAd w b1)), (2, .ref (wAd w g2)), (3, .int z.1)] []) (hE : ∀ y, o = .inr y → AtL w p l e ({ frames := 3, cells := 0, slots := 0, locals := 64 } : Room) s m args below meth c Q 5 109 y L [] []) : AtL w p l e ({ frames := 3, cells := 0, slots := 0, locals := 64 } : Room) s m args below meth c Q 5 85 M L [(0, .ref (wAd w b0)), (1, .ref (wAd w b1)), (2, .ref (wAd w g2)), (3, .int v3)] [.int s0] := by
  intro H locs ls hP hS hl
  unfold f_X4_judge_j85 at hf
  refine lv_istore (lv' := [(4, .int s0), (0, .ref (wAd w b0)), (1, .ref (wAd w b1)), (2, .ref (wAd w g2)), (3, .int v3)]) C.1 C.2.1 dX4_judge_85 hl (by decide) rfl (fun ls hl => ?_)
  refine lv_aload_n C.1 C.2.1 dX4_judge_87 rfl (lv_at hl 1 rfl) ?_
  refine k_get (v := .ref (wAd w (b0 + 3))) C hP (C9 C (lt_Minutes hb0)) (ob_Minutes hb0 w L _) rfl iX4 2 (by decide) q143 rfl dX4_judge_88 ?_
  refine lv_iload_n C.1 C.2.1 dX4_judge_91 rfl (lv_at hl 4 rfl) ?_
  refine lv_iload C.1 C.2.1 dX4_judge_92 (lv_at hl 0 rfl) ?_
  refine lv_if_eq (tgt := 101) C.1 C.2.1 dX4_judge_94 (by decide) (fun c12 => ?_) (fun c12 => ?_)
  · have hf := (if_pos c12).symm.trans hf
    refine lv_iconst (v := 3) C.1 C.2.1 dX4_judge_101 (by decide) ?_
    exact w_X4_judge_j102 C hb0 hb1 hg2 hf hA hE _ _ _ hP hS (lv_sub hl [1, 2, 3, 4] rfl)
  · have hf := (if_neg c12).symm.trans hf
    refine lv_iconst (v := 0) C.1 C.2.1 dX4_judge_97 (by decide) ?_
    refine lv_goto (tgt := 102) C.1 C.2.1 dX4_judge_98 (by decide) ?_
    exact w_X4_judge_j102 C hb0 hb1 hg2 hf hA hE _ _ _ hP hS (lv_sub hl [1, 2, 3, 4] rfl)
set_option maxHeartbeats 4000000 in
set_option maxRecDepth 100000 in
theorem w_X4_judge_l7 {b0 : Nat} {b1 : Nat} {g2 : Nat} {w : WT} {l : Launch} {p : Program} {e : Env} {s : State} {m : MethodId} {args : Array Value} {below : List Frame} {meth : Method} {c : Code} (C : KC w p s m args meth c cX4_judge 5 RX4 none) (hb0 : isMn b0) (hb1 : isSt b1) (hg2 : isS g2) {L : Lng} {Q : State → Prop} (z : Int32 × Mem) (o : (Int32 × Mem) ⊕ (Mem)) (hf : f_X4_judge_l7 b0 b1 g2 z = some o) (hA : ∀ z, o = .inl z → AtL w p l e ({ frames := 3, cells := 0, slots := 0, locals := 64 } : Room) s m args below meth c Q 5 7 z.2 L [(0, .ref (wAd w b0)), (1, .ref (wAd w b1)), (2, .ref (wAd w g2)), (3, .int z.1)] []) (hE : ∀ y, o = .inr y → AtL w p l e ({ frames := 3, cells := 0, slots := 0, locals := 64 } : Room) s m args below meth c Q 5 109 y L [] []) : AtL w p l e ({ frames := 3, cells := 0, slots := 0, locals := 64 } : Room) s m args below meth c Q 5 7 z.2 L [(0, .ref (wAd w b0)), (1, .ref (wAd w b1)), (2, .ref (wAd w g2)), (3, .int z.1)] [] := by
  intro H locs ls hP hS hl
  unfold f_X4_judge_l7 at hf
  refine lv_iload_n C.1 C.2.1 dX4_judge_7 rfl (lv_at hl 3 rfl) ?_
  refine lv_aload_n C.1 C.2.1 dX4_judge_8 rfl (lv_at hl 0 rfl) ?_
  refine k_get (v := .int (z.2 b0 3)) C hP (C9 C (lt_Minutes hb0)) (ob_Minutes hb0 w L _) rfl iX4 3 (by decide) q146 rfl dX4_judge_9 ?_
  refine lv_icmp_ge (tgt := 109) C.1 C.2.1 dX4_judge_12 (by decide) (fun c2 => ?_) (fun c2 => ?_)
  · have hf := (if_pos c2).symm.trans hf
    cases hf
    exact hE _ rfl _ _ _ hP hS (lv_sub hl [] rfl)
  · have hf := (if_neg c2).symm.trans hf
    refine lv_aload_n C.1 C.2.1 dX4_judge_15 rfl (lv_at hl 1 rfl) ?_
    refine k_get (v := .ref (wAd w (b1 + 2))) C hP (C9 C (lt_State hb1)) (ob_State hb1 w L _) rfl iX5 1 (by decide) q45 rfl dX4_judge_16 ?_
    refine lv_iload_n C.1 C.2.1 dX4_judge_19 rfl (lv_at hl 3 rfl) ?_
    obtain ⟨x3, hx3, hf⟩ := ob hf
    refine k_iald C hP (C9 C (la_State_winds hb1)) (ar_State_winds hb1 w L _) hx3 dX4_judge_20 ?_
    refine lv_aload_n C.1 C.2.1 dX4_judge_21 rfl (lv_at hl 2 rfl) ?_
    refine lv_iconst (v := 4) C.1 C.2.1 dX4_judge_22 (by decide) ?_
    obtain ⟨x4, hx4, hf⟩ := ob hf
    refine k_iald C hP (C9 C (la_S hg2)) (ar_S hg2 w L _) hx4 dX4_judge_23 ?_
    refine lv_icmp_lt (tgt := 42) C.1 C.2.1 dX4_judge_24 (by decide) (fun c5 => ?_) (fun c5 => ?_)
    · have hf := (if_pos c5).symm.trans hf
      refine lv_aload_n C.1 C.2.1 dX4_judge_42 rfl (lv_at hl 0 rfl) ?_
      refine lv_iload_n C.1 C.2.1 dX4_judge_43 rfl (lv_at hl 3 rfl) ?_
      refine lv_aload_n C.1 C.2.1 dX4_judge_44 rfl (lv_at hl 2 rfl) ?_
      refine lv_iconst (v := 5) C.1 C.2.1 dX4_judge_45 (by decide) ?_
      obtain ⟨x6, hx6, hf⟩ := ob hf
      refine k_iald C hP (C9 C (la_S hg2)) (ar_S hg2 w L _) hx6 dX4_judge_46 ?_
      obtain ⟨r7, hr7, hf⟩ := ob hf
      refine kci (kV (As := [.int z.1, .int x6]) (rest := []) C hl.1 hP hS (c_X4_isSoonAfterWind w l C.2.2.2.2.2.2.2.2 hb0 (L := L) hr7) (gV q546 q547 q548 q6 q549) hd_X4_isSoonAfterWind (C9 C (lt_Minutes hb0)) (ob_Minutes hb0 w L _) rfl ⟨rfl, rfl⟩ ⟨Nat.le_of_ble_eq_true rfl, Nat.le_of_ble_eq_true rfl⟩ rfl rfl (Nat.le_of_ble_eq_true rfl) dX4_judge_47 ⟨Nat.zero_le _, Nat.zero_le _⟩) hS (fun H locs hP hS => ?_)
      refine lv_if_eq (tgt := 63) C.1 C.2.1 dX4_judge_50 (by decide) (fun c8 => ?_) (fun c8 => ?_)
      · have hf := (if_pos c8).symm.trans hf
        refine lv_aload_n C.1 C.2.1 dX4_judge_63 rfl (lv_at hl 0 rfl) ?_
        refine k_get (v := .ref (wAd w (b0 + 2))) C hP (C9 C (lt_Minutes hb0)) (ob_Minutes hb0 w L _) rfl iX4 1 (by decide) q139 rfl dX4_judge_64 ?_
        refine lv_iload_n C.1 C.2.1 dX4_judge_67 rfl (lv_at hl 3 rfl) ?_
        obtain ⟨x9, hx9, hf⟩ := ob hf
        refine k_iald C hP (C9 C (la_Minutes_slow hb0)) (ar_Minutes_slow hb0 w L _) hx9 dX4_judge_68 ?_
        refine lv_bipush (v := 10) C.1 C.2.1 dX4_judge_69 (by decide) ?_
        refine lv_iload_n C.1 C.2.1 dX4_judge_71 rfl (lv_at hl 3 rfl) ?_
        refine lv_aload_n C.1 C.2.1 dX4_judge_72 rfl (lv_at hl 2 rfl) ?_
        obtain ⟨r10, hr10, hf⟩ := ob hf
        refine kci (kSN (As := [.int z.1, .ref (wAd w g2)]) (rest := [.int 10, .int x9]) C hl.1 hP hS (c_X8_limitAt w l C.2.2.2.2.2.2.2.2 hg2 (L := L) hr10) q435 nw7 q1 q434 hd_X8_limitAt ⟨rfl, rfl⟩ ⟨Nat.le_of_ble_eq_true rfl, Nat.le_of_ble_eq_true rfl⟩ rfl rfl (Nat.le_of_ble_eq_true rfl) dX4_judge_73 ⟨Nat.zero_le _, Nat.zero_le _⟩) hS (fun H locs hP hS => ?_)
        refine lv_imul C.1 C.2.1 dX4_judge_76 ?_
        refine lv_icmp_le (tgt := 84) C.1 C.2.1 dX4_judge_77 (by decide) (fun c11 => ?_) (fun c11 => ?_)
        · have hf := (if_pos c11).symm.trans hf
          refine lv_iconst (v := 0) C.1 C.2.1 dX4_judge_84 (by decide) ?_
          exact w_X4_judge_j85 C hb0 hb1 hg2 hf hA hE _ _ _ hP hS hl
        · have hf := (if_neg c11).symm.trans hf
          refine lv_iconst (v := 1) C.1 C.2.1 dX4_judge_80 (by decide) ?_
          refine lv_goto (tgt := 85) C.1 C.2.1 dX4_judge_81 (by decide) ?_
          exact w_X4_judge_j85 C hb0 hb1 hg2 hf hA hE _ _ _ hP hS hl
      · have hf := (if_neg c8).symm.trans hf
        refine lv_aload_n C.1 C.2.1 dX4_judge_53 rfl (lv_at hl 0 rfl) ?_
        refine k_get (v := .ref (wAd w (b0 + 3))) C hP (C9 C (lt_Minutes hb0)) (ob_Minutes hb0 w L _) rfl iX4 2 (by decide) q143 rfl dX4_judge_54 ?_
        refine lv_iload_n C.1 C.2.1 dX4_judge_57 rfl (lv_at hl 3 rfl) ?_
        refine lv_iconst (v := 2) C.1 C.2.1 dX4_judge_58 (by decide) ?_
        obtain ⟨M14, hM14, hf⟩ := ob hf
        refine k_iast C hP hS (C9 C (la_Minutes_why hb0)) (ar_Minutes_why hb0 w L) hM14 dX4_judge_59 (fun H locs hP hS => ?_)
        refine lv_goto (tgt := 103) C.1 C.2.1 dX4_judge_60 (by decide) ?_
        exact w_X4_judge_j103 C hb0 hb1 hg2 hf hA hE _ _ _ hP hS hl
    · have hf := (if_neg c5).symm.trans hf
      refine lv_aload_n C.1 C.2.1 dX4_judge_27 rfl (lv_at hl 0 rfl) ?_
      refine k_get (v := .ref (wAd w (b0 + 3))) C hP (C9 C (lt_Minutes hb0)) (ob_Minutes hb0 w L _) rfl iX4 2 (by decide) q143 rfl dX4_judge_28 ?_
      refine lv_iload_n C.1 C.2.1 dX4_judge_31 rfl (lv_at hl 3 rfl) ?_
      refine lv_iconst (v := 1) C.1 C.2.1 dX4_judge_32 (by decide) ?_
      obtain ⟨M15, hM15, hf⟩ := ob hf
      refine k_iast C hP hS (C9 C (la_Minutes_why hb0)) (ar_Minutes_why hb0 w L) hM15 dX4_judge_33 (fun H locs hP hS => ?_)
      refine lv_aload_n C.1 C.2.1 dX4_judge_34 rfl (lv_at hl 0 rfl) ?_
      refine lv_iload_n C.1 C.2.1 dX4_judge_35 rfl (lv_at hl 3 rfl) ?_
      obtain ⟨M16, hM16, hf⟩ := ob hf
      refine k_puti C hP hS (C9 C (lt_Minutes hb0)) (fun row => ob_Minutes hb0 w L row) rfl iX4 tyX4 tyX4_ok nmX4 7 (by decide) q157 rfl rfl (Nat.le_of_ble_eq_true rfl) rfl hM16 dX4_judge_36 (fun H locs hP hS => ?_)
      refine lv_goto (tgt := 103) C.1 C.2.1 dX4_judge_39 (by decide) ?_
      exact w_X4_judge_j103 C hb0 hb1 hg2 hf hA hE _ _ _ hP hS hl
set_option maxHeartbeats 4000000 in
set_option maxRecDepth 100000 in
theorem c_X4_judge (w : WT) (l : Launch) (hw : WOK w) {b0 : Nat} {b1 : Nat} {g2 : Nat} (hb0 : isMn b0) (hb1 : isSt b1) (hg2 : isS g2) {M : Mem} {L : Lng} {out : Mem} (hf : f_X4_judge b0 b1 g2 M = some out) : Met l yX4_judge (Cond.code yX4_judge cX4_judge 5 none :: BG) ({ frames := 3, cells := 0, slots := 0, locals := 64 } : Room) (PRE w [.ref (wAd w b0), .ref (wAd w b1), .ref (wAd w g2)] M L) (QV w out L) 0 0 (wA w) := by
  refine kEnt hw (by decide +kernel) rfl (Nat.le_of_ble_eq_true rfl) ?_
  intro p e s m args below meth c C ls hl hP
  have hS : va_S (wA w) s.heap s.heap [] := va_S.rf
  have hl : lv_has ls 5 [(0, .ref (wAd w b0)), (1, .ref (wAd w b1)), (2, .ref (wAd w g2))] := hl
  unfold f_X4_judge at hf
  refine lv_aload_n C.1 C.2.1 dX4_judge_0 rfl (lv_at hl 0 rfl) ?_
  refine lv_iconst (v := (-1)) C.1 C.2.1 dX4_judge_1 (by decide) ?_
  obtain ⟨M1, hM1, hf⟩ := ob hf
  refine k_puti C hP hS (C9 C (lt_Minutes hb0)) (fun row => ob_Minutes hb0 w L row) rfl iX4 tyX4 tyX4_ok nmX4 7 (by decide) q157 rfl rfl (Nat.le_of_ble_eq_true rfl) rfl hM1 dX4_judge_2 (fun H locs hP hS => ?_)
  refine lv_iconst (v := 0) C.1 C.2.1 dX4_judge_5 (by decide) ?_
  refine lv_istore_n (lv' := [(3, .int 0), (0, .ref (wAd w b0)), (1, .ref (wAd w b1)), (2, .ref (wAd w g2))]) C.1 C.2.1 dX4_judge_6 rfl hl (by decide) rfl (fun ls hl => ?_)
  obtain ⟨o17, ho17, hf⟩ := ob hf
  refine loop_at (w_X4_judge_l7 C hb0 hb1 hg2) FU _ o17 ho17 ?_ _ _ _ hP hS (lv_sub hl [1, 2, 3, 0] rfl)
  intro H locs ls hP hS hl
  cases hf
  exact krv C hP hS dX4_judge_109
theorem dX4_tally_0 : decode cX4_tally 0 = .ok (.aload_n 0, 1) := by decide +kernel
theorem dX4_tally_1 : decode cX4_tally 1 = .ok (.iconst 0, 1) := by decide +kernel
theorem dX4_tally_2 : decode cX4_tally 2 = .ok (.putfield 51, 3) := by decide +kernel
theorem dX4_tally_5 : decode cX4_tally 5 = .ok (.aload_n 0, 1) := by decide +kernel
theorem dX4_tally_6 : decode cX4_tally 6 = .ok (.iconst 0, 1) := by decide +kernel
theorem dX4_tally_7 : decode cX4_tally 7 = .ok (.putfield 54, 3) := by decide +kernel
theorem dX4_tally_10 : decode cX4_tally 10 = .ok (.aload_n 0, 1) := by decide +kernel
theorem dX4_tally_11 : decode cX4_tally 11 = .ok (.iconst 0, 1) := by decide +kernel
theorem dX4_tally_12 : decode cX4_tally 12 = .ok (.putfield 57, 3) := by decide +kernel
theorem dX4_tally_15 : decode cX4_tally 15 = .ok (.iconst 0, 1) := by decide +kernel
theorem dX4_tally_16 : decode cX4_tally 16 = .ok (.istore_n 2, 1) := by decide +kernel
theorem dX4_tally_17 : decode cX4_tally 17 = .ok (.iload_n 2, 1) := by decide +kernel
theorem dX4_tally_18 : decode cX4_tally 18 = .ok (.aload_n 0, 1) := by decide +kernel
theorem dX4_tally_19 : decode cX4_tally 19 = .ok (.getfield 30, 3) := by decide +kernel
theorem dX4_tally_22 : decode cX4_tally 22 = .ok (.if_icmp .ge 76, 3) := by decide +kernel
theorem dX4_tally_25 : decode cX4_tally 25 = .ok (.aload_n 0, 1) := by decide +kernel
theorem dX4_tally_26 : decode cX4_tally 26 = .ok (.dup, 1) := by decide +kernel
theorem dX4_tally_27 : decode cX4_tally 27 = .ok (.getfield 51, 3) := by decide +kernel
theorem dX4_tally_30 : decode cX4_tally 30 = .ok (.aload_n 0, 1) := by decide +kernel
theorem dX4_tally_31 : decode cX4_tally 31 = .ok (.iload_n 2, 1) := by decide +kernel
theorem dX4_tally_32 : decode cX4_tally 32 = .ok (.invokevirtual 60, 3) := by decide +kernel
theorem dX4_tally_35 : decode cX4_tally 35 = .ok (.ifCond .eq 7, 3) := by decide +kernel
theorem dX4_tally_38 : decode cX4_tally 38 = .ok (.iconst 1, 1) := by decide +kernel
theorem dX4_tally_39 : decode cX4_tally 39 = .ok (.goto 4, 3) := by decide +kernel
theorem dX4_tally_42 : decode cX4_tally 42 = .ok (.iconst 0, 1) := by decide +kernel
theorem dX4_tally_43 : decode cX4_tally 43 = .ok (.iadd, 1) := by decide +kernel
theorem dX4_tally_44 : decode cX4_tally 44 = .ok (.putfield 51, 3) := by decide +kernel
theorem dX4_tally_47 : decode cX4_tally 47 = .ok (.aload_n 0, 1) := by decide +kernel
theorem dX4_tally_48 : decode cX4_tally 48 = .ok (.dup, 1) := by decide +kernel
theorem dX4_tally_49 : decode cX4_tally 49 = .ok (.getfield 54, 3) := by decide +kernel
theorem dX4_tally_52 : decode cX4_tally 52 = .ok (.iload_n 2, 1) := by decide +kernel
theorem dX4_tally_53 : decode cX4_tally 53 = .ok (.aload_n 1, 1) := by decide +kernel
theorem dX4_tally_54 : decode cX4_tally 54 = .ok (.invokestatic 64, 3) := by decide +kernel
theorem dX4_tally_57 : decode cX4_tally 57 = .ok (.ifCond .eq 7, 3) := by decide +kernel
theorem dX4_tally_60 : decode cX4_tally 60 = .ok (.iconst 1, 1) := by decide +kernel
theorem dX4_tally_61 : decode cX4_tally 61 = .ok (.goto 4, 3) := by decide +kernel
theorem dX4_tally_64 : decode cX4_tally 64 = .ok (.iconst 0, 1) := by decide +kernel
theorem dX4_tally_65 : decode cX4_tally 65 = .ok (.iadd, 1) := by decide +kernel
theorem dX4_tally_66 : decode cX4_tally 66 = .ok (.putfield 54, 3) := by decide +kernel
theorem dX4_tally_69 : decode cX4_tally 69 = .ok (.aload_n 0, 1) := by decide +kernel
theorem dX4_tally_70 : decode cX4_tally 70 = .ok (.dup, 1) := by decide +kernel
theorem dX4_tally_71 : decode cX4_tally 71 = .ok (.getfield 57, 3) := by decide +kernel
theorem dX4_tally_74 : decode cX4_tally 74 = .ok (.aload_n 0, 1) := by decide +kernel
theorem dX4_tally_75 : decode cX4_tally 75 = .ok (.getfield 18, 3) := by decide +kernel
theorem dX4_tally_78 : decode cX4_tally 78 = .ok (.iload_n 2, 1) := by decide +kernel
theorem dX4_tally_79 : decode cX4_tally 79 = .ok (.iaload, 1) := by decide +kernel
theorem dX4_tally_80 : decode cX4_tally 80 = .ok (.ifCond .ne 7, 3) := by decide +kernel
theorem dX4_tally_83 : decode cX4_tally 83 = .ok (.iconst 1, 1) := by decide +kernel
theorem dX4_tally_84 : decode cX4_tally 84 = .ok (.goto 4, 3) := by decide +kernel
theorem dX4_tally_87 : decode cX4_tally 87 = .ok (.iconst 0, 1) := by decide +kernel
theorem dX4_tally_88 : decode cX4_tally 88 = .ok (.iadd, 1) := by decide +kernel
theorem dX4_tally_89 : decode cX4_tally 89 = .ok (.putfield 57, 3) := by decide +kernel
theorem dX4_tally_92 : decode cX4_tally 92 = .ok (.iinc 2 1, 3) := by decide +kernel
theorem dX4_tally_95 : decode cX4_tally 95 = .ok (.goto (-78), 3) := by decide +kernel
theorem dX4_tally_98 : decode cX4_tally 98 = .ok (.return_, 1) := by decide +kernel
set_option maxHeartbeats 4000000 in
set_option maxRecDepth 100000 in
theorem w_X4_tally_j88 {b0 : Nat} {g1 : Nat} {w : WT} {l : Launch} {p : Program} {e : Env} {s : State} {m : MethodId} {args : Array Value} {below : List Frame} {meth : Method} {c : Code} (C : KC w p s m args meth c cX4_tally 3 RX4 none) (hb0 : isMn b0) (hg1 : isS g1) {v2 : Int32} {s1 : Int32} {s2 : Int32} {M : Mem} {L : Lng} {Q : State → Prop} {o : (Int32 × Mem) ⊕ (Mem)} (hf : f_X4_tally_j88 b0 g1 v2 s1 s2 M = some o) (hA : ∀ z, o = .inl z → AtL w p l e ({ frames := 2, cells := 0, slots := 0, locals := 43 } : Room) s m args below meth c Q 3 17 z.2 L [(0, .ref (wAd w b0)), (1, .ref (wAd w g1)), (2, .int z.1)] []) (hE : ∀ y, o = .inr y → AtL w p l e ({ frames := 2, cells := 0, slots := 0, locals := 43 } : Room) s m args below meth c Q 3 98 y L [] []) : AtL w p l e ({ frames := 2, cells := 0, slots := 0, locals := 43 } : Room) s m args below meth c Q 3 88 M L [(0, .ref (wAd w b0)), (1, .ref (wAd w g1)), (2, .int v2)] [.int s2, .int s1, .ref (wAd w b0)] := by
  intro H locs ls hP hS hl
  unfold f_X4_tally_j88 at hf
  refine lv_iadd C.1 C.2.1 dX4_tally_88 ?_
  obtain ⟨M13, hM13, hf⟩ := ob hf
  refine k_puti C hP hS (C9 C (lt_Minutes hb0)) (fun row => ob_Minutes hb0 w L row) rfl iX4 tyX4 tyX4_ok nmX4 6 (by decide) q155 rfl rfl (Nat.le_of_ble_eq_true rfl) rfl hM13 dX4_tally_89 (fun H locs hP hS => ?_)
  refine lv_iinc (v := (v2 + 1)) (lv' := [(2, .int (v2 + 1)), (0, .ref (wAd w b0)), (1, .ref (wAd w g1))]) C.1 C.2.1 dX4_tally_92 hl (k := 2) rfl rfl (by decide) rfl (fun ls hl => ?_)
  refine lv_goto (tgt := 17) C.1 C.2.1 dX4_tally_95 (by decide) ?_
  cases hf
  exact hA _ rfl _ _ _ hP hS (lv_sub hl [1, 2, 0] rfl)
set_option maxHeartbeats 4000000 in
set_option maxRecDepth 100000 in
theorem w_X4_tally_j65 {b0 : Nat} {g1 : Nat} {w : WT} {l : Launch} {p : Program} {e : Env} {s : State} {m : MethodId} {args : Array Value} {below : List Frame} {meth : Method} {c : Code} (C : KC w p s m args meth c cX4_tally 3 RX4 none) (hb0 : isMn b0) (hg1 : isS g1) {v2 : Int32} {s1 : Int32} {s2 : Int32} {M : Mem} {L : Lng} {Q : State → Prop} {o : (Int32 × Mem) ⊕ (Mem)} (hf : f_X4_tally_j65 b0 g1 v2 s1 s2 M = some o) (hA : ∀ z, o = .inl z → AtL w p l e ({ frames := 2, cells := 0, slots := 0, locals := 43 } : Room) s m args below meth c Q 3 17 z.2 L [(0, .ref (wAd w b0)), (1, .ref (wAd w g1)), (2, .int z.1)] []) (hE : ∀ y, o = .inr y → AtL w p l e ({ frames := 2, cells := 0, slots := 0, locals := 43 } : Room) s m args below meth c Q 3 98 y L [] []) : AtL w p l e ({ frames := 2, cells := 0, slots := 0, locals := 43 } : Room) s m args below meth c Q 3 65 M L [(0, .ref (wAd w b0)), (1, .ref (wAd w g1)), (2, .int v2)] [.int s2, .int s1, .ref (wAd w b0)] := by
  intro H locs ls hP hS hl
  unfold f_X4_tally_j65 at hf
  refine lv_iadd C.1 C.2.1 dX4_tally_65 ?_
  obtain ⟨M10, hM10, hf⟩ := ob hf
  refine k_puti C hP hS (C9 C (lt_Minutes hb0)) (fun row => ob_Minutes hb0 w L row) rfl iX4 tyX4 tyX4_ok nmX4 5 (by decide) q153 rfl rfl (Nat.le_of_ble_eq_true rfl) rfl hM10 dX4_tally_66 (fun H locs hP hS => ?_)
  refine lv_aload_n C.1 C.2.1 dX4_tally_69 rfl (lv_at hl 0 rfl) ?_
  refine lv_dup C.1 C.2.1 dX4_tally_70 rfl ?_
  refine k_get (v := .int (M10 b0 6)) C hP (C9 C (lt_Minutes hb0)) (ob_Minutes hb0 w L _) rfl iX4 6 (by decide) q155 rfl dX4_tally_71 ?_
  refine lv_aload_n C.1 C.2.1 dX4_tally_74 rfl (lv_at hl 0 rfl) ?_
  refine k_get (v := .ref (wAd w (b0 + 3))) C hP (C9 C (lt_Minutes hb0)) (ob_Minutes hb0 w L _) rfl iX4 2 (by decide) q143 rfl dX4_tally_75 ?_
  refine lv_iload_n C.1 C.2.1 dX4_tally_78 rfl (lv_at hl 2 rfl) ?_
  obtain ⟨x11, hx11, hf⟩ := ob hf
  refine k_iald C hP (C9 C (la_Minutes_why hb0)) (ar_Minutes_why hb0 w L _) hx11 dX4_tally_79 ?_
  refine lv_if_ne (tgt := 87) C.1 C.2.1 dX4_tally_80 (by decide) (fun c12 => ?_) (fun c12 => ?_)
  · have hf := (if_neg c12).symm.trans hf
    refine lv_iconst (v := 0) C.1 C.2.1 dX4_tally_87 (by decide) ?_
    exact w_X4_tally_j88 C hb0 hg1 hf hA hE _ _ _ hP hS hl
  · have hf := (if_pos c12).symm.trans hf
    refine lv_iconst (v := 1) C.1 C.2.1 dX4_tally_83 (by decide) ?_
    refine lv_goto (tgt := 88) C.1 C.2.1 dX4_tally_84 (by decide) ?_
    exact w_X4_tally_j88 C hb0 hg1 hf hA hE _ _ _ hP hS hl
set_option maxHeartbeats 4000000 in
set_option maxRecDepth 100000 in
theorem w_X4_tally_j43 {b0 : Nat} {g1 : Nat} {w : WT} {l : Launch} {p : Program} {e : Env} {s : State} {m : MethodId} {args : Array Value} {below : List Frame} {meth : Method} {c : Code} (C : KC w p s m args meth c cX4_tally 3 RX4 none) (hb0 : isMn b0) (hg1 : isS g1) {v2 : Int32} {s1 : Int32} {s2 : Int32} {M : Mem} {L : Lng} {Q : State → Prop} {o : (Int32 × Mem) ⊕ (Mem)} (hf : f_X4_tally_j43 b0 g1 v2 s1 s2 M = some o) (hA : ∀ z, o = .inl z → AtL w p l e ({ frames := 2, cells := 0, slots := 0, locals := 43 } : Room) s m args below meth c Q 3 17 z.2 L [(0, .ref (wAd w b0)), (1, .ref (wAd w g1)), (2, .int z.1)] []) (hE : ∀ y, o = .inr y → AtL w p l e ({ frames := 2, cells := 0, slots := 0, locals := 43 } : Room) s m args below meth c Q 3 98 y L [] []) : AtL w p l e ({ frames := 2, cells := 0, slots := 0, locals := 43 } : Room) s m args below meth c Q 3 43 M L [(0, .ref (wAd w b0)), (1, .ref (wAd w g1)), (2, .int v2)] [.int s2, .int s1, .ref (wAd w b0)] := by
  intro H locs ls hP hS hl
  unfold f_X4_tally_j43 at hf
  refine lv_iadd C.1 C.2.1 dX4_tally_43 ?_
  obtain ⟨M7, hM7, hf⟩ := ob hf
  refine k_puti C hP hS (C9 C (lt_Minutes hb0)) (fun row => ob_Minutes hb0 w L row) rfl iX4 tyX4 tyX4_ok nmX4 4 (by decide) q150 rfl rfl (Nat.le_of_ble_eq_true rfl) rfl hM7 dX4_tally_44 (fun H locs hP hS => ?_)
  refine lv_aload_n C.1 C.2.1 dX4_tally_47 rfl (lv_at hl 0 rfl) ?_
  refine lv_dup C.1 C.2.1 dX4_tally_48 rfl ?_
  refine k_get (v := .int (M7 b0 5)) C hP (C9 C (lt_Minutes hb0)) (ob_Minutes hb0 w L _) rfl iX4 5 (by decide) q153 rfl dX4_tally_49 ?_
  refine lv_iload_n C.1 C.2.1 dX4_tally_52 rfl (lv_at hl 2 rfl) ?_
  refine lv_aload_n C.1 C.2.1 dX4_tally_53 rfl (lv_at hl 1 rfl) ?_
  obtain ⟨r8, hr8, hf⟩ := ob hf
  refine kci (kSN (As := [.int v2, .ref (wAd w g1)]) (rest := [.int (M7 b0 5), .ref (wAd w b0)]) C hl.1 hP hS (c_X8_isRest w l C.2.2.2.2.2.2.2.2 hg1 (L := L) hr8) q438 nw8 q1 q437 hd_X8_isRest ⟨rfl, rfl⟩ ⟨Nat.le_of_ble_eq_true rfl, Nat.le_of_ble_eq_true rfl⟩ rfl rfl (Nat.le_of_ble_eq_true rfl) dX4_tally_54 ⟨Nat.zero_le _, Nat.zero_le _⟩) hS (fun H locs hP hS => ?_)
  refine lv_if_eq (tgt := 64) C.1 C.2.1 dX4_tally_57 (by decide) (fun c9 => ?_) (fun c9 => ?_)
  · have hf := (if_pos c9).symm.trans hf
    refine lv_iconst (v := 0) C.1 C.2.1 dX4_tally_64 (by decide) ?_
    exact w_X4_tally_j65 C hb0 hg1 hf hA hE _ _ _ hP hS hl
  · have hf := (if_neg c9).symm.trans hf
    refine lv_iconst (v := 1) C.1 C.2.1 dX4_tally_60 (by decide) ?_
    refine lv_goto (tgt := 65) C.1 C.2.1 dX4_tally_61 (by decide) ?_
    exact w_X4_tally_j65 C hb0 hg1 hf hA hE _ _ _ hP hS hl
