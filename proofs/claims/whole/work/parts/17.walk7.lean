theorem dX9_lay_0 : decode cX9_lay 0 = .ok (.aload_n 0, 1) := by decide +kernel
theorem dX9_lay_1 : decode cX9_lay 1 = .ok (.aload_n 0, 1) := by decide +kernel
theorem dX9_lay_2 : decode cX9_lay 2 = .ok (.getfield 7, 3) := by decide +kernel
theorem dX9_lay_5 : decode cX9_lay 5 = .ok (.iconst 0, 1) := by decide +kernel
theorem dX9_lay_6 : decode cX9_lay 6 = .ok (.iaload, 1) := by decide +kernel
theorem dX9_lay_7 : decode cX9_lay 7 = .ok (.iload_n 1, 1) := by decide +kernel
theorem dX9_lay_8 : decode cX9_lay 8 = .ok (.iadd, 1) := by decide +kernel
theorem dX9_lay_9 : decode cX9_lay 9 = .ok (.putfield 80, 3) := by decide +kernel
theorem dX9_lay_12 : decode cX9_lay 12 = .ok (.iconst 0, 1) := by decide +kernel
theorem dX9_lay_13 : decode cX9_lay 13 = .ok (.istore_n 3, 1) := by decide +kernel
theorem dX9_lay_14 : decode cX9_lay 14 = .ok (.iload_n 3, 1) := by decide +kernel
theorem dX9_lay_15 : decode cX9_lay 15 = .ok (.aload_n 0, 1) := by decide +kernel
theorem dX9_lay_16 : decode cX9_lay 16 = .ok (.getfield 80, 3) := by decide +kernel
theorem dX9_lay_19 : decode cX9_lay 19 = .ok (.if_icmp .ge 78, 3) := by decide +kernel
theorem dX9_lay_22 : decode cX9_lay 22 = .ok (.iload_n 3, 1) := by decide +kernel
theorem dX9_lay_23 : decode cX9_lay 23 = .ok (.aload_n 0, 1) := by decide +kernel
theorem dX9_lay_24 : decode cX9_lay 24 = .ok (.getfield 7, 3) := by decide +kernel
theorem dX9_lay_27 : decode cX9_lay 27 = .ok (.iconst 0, 1) := by decide +kernel
theorem dX9_lay_28 : decode cX9_lay 28 = .ok (.iaload, 1) := by decide +kernel
theorem dX9_lay_29 : decode cX9_lay 29 = .ok (.if_icmp .ge 7, 3) := by decide +kernel
theorem dX9_lay_32 : decode cX9_lay 32 = .ok (.iconst 1, 1) := by decide +kernel
theorem dX9_lay_33 : decode cX9_lay 33 = .ok (.goto 4, 3) := by decide +kernel
theorem dX9_lay_36 : decode cX9_lay 36 = .ok (.iconst 0, 1) := by decide +kernel
theorem dX9_lay_37 : decode cX9_lay 37 = .ok (.istore 4, 2) := by decide +kernel
theorem dX9_lay_39 : decode cX9_lay 39 = .ok (.aload_n 0, 1) := by decide +kernel
theorem dX9_lay_40 : decode cX9_lay 40 = .ok (.getfield 19, 3) := by decide +kernel
theorem dX9_lay_43 : decode cX9_lay 43 = .ok (.iload_n 3, 1) := by decide +kernel
theorem dX9_lay_44 : decode cX9_lay 44 = .ok (.iload 4, 2) := by decide +kernel
theorem dX9_lay_46 : decode cX9_lay 46 = .ok (.ifCond .eq 16, 3) := by decide +kernel
theorem dX9_lay_49 : decode cX9_lay 49 = .ok (.aload_n 0, 1) := by decide +kernel
theorem dX9_lay_50 : decode cX9_lay 50 = .ok (.getfield 7, 3) := by decide +kernel
theorem dX9_lay_53 : decode cX9_lay 53 = .ok (.iconst 1, 1) := by decide +kernel
theorem dX9_lay_54 : decode cX9_lay 54 = .ok (.iconst 2, 1) := by decide +kernel
theorem dX9_lay_55 : decode cX9_lay 55 = .ok (.iload_n 3, 1) := by decide +kernel
theorem dX9_lay_56 : decode cX9_lay 56 = .ok (.imul, 1) := by decide +kernel
theorem dX9_lay_57 : decode cX9_lay 57 = .ok (.iadd, 1) := by decide +kernel
theorem dX9_lay_58 : decode cX9_lay 58 = .ok (.iaload, 1) := by decide +kernel
theorem dX9_lay_59 : decode cX9_lay 59 = .ok (.goto 4, 3) := by decide +kernel
theorem dX9_lay_62 : decode cX9_lay 62 = .ok (.iload_n 2, 1) := by decide +kernel
theorem dX9_lay_63 : decode cX9_lay 63 = .ok (.iastore, 1) := by decide +kernel
theorem dX9_lay_64 : decode cX9_lay 64 = .ok (.aload_n 0, 1) := by decide +kernel
theorem dX9_lay_65 : decode cX9_lay 65 = .ok (.getfield 22, 3) := by decide +kernel
theorem dX9_lay_68 : decode cX9_lay 68 = .ok (.iload_n 3, 1) := by decide +kernel
theorem dX9_lay_69 : decode cX9_lay 69 = .ok (.iload 4, 2) := by decide +kernel
theorem dX9_lay_71 : decode cX9_lay 71 = .ok (.ifCond .eq 18, 3) := by decide +kernel
theorem dX9_lay_74 : decode cX9_lay 74 = .ok (.aload_n 0, 1) := by decide +kernel
theorem dX9_lay_75 : decode cX9_lay 75 = .ok (.getfield 7, 3) := by decide +kernel
theorem dX9_lay_78 : decode cX9_lay 78 = .ok (.iconst 1, 1) := by decide +kernel
theorem dX9_lay_79 : decode cX9_lay 79 = .ok (.iconst 2, 1) := by decide +kernel
theorem dX9_lay_80 : decode cX9_lay 80 = .ok (.iload_n 3, 1) := by decide +kernel
theorem dX9_lay_81 : decode cX9_lay 81 = .ok (.imul, 1) := by decide +kernel
theorem dX9_lay_82 : decode cX9_lay 82 = .ok (.iadd, 1) := by decide +kernel
theorem dX9_lay_83 : decode cX9_lay 83 = .ok (.iconst 1, 1) := by decide +kernel
theorem dX9_lay_84 : decode cX9_lay 84 = .ok (.iadd, 1) := by decide +kernel
theorem dX9_lay_85 : decode cX9_lay 85 = .ok (.iaload, 1) := by decide +kernel
theorem dX9_lay_86 : decode cX9_lay 86 = .ok (.goto 4, 3) := by decide +kernel
theorem dX9_lay_89 : decode cX9_lay 89 = .ok (.iconst 0, 1) := by decide +kernel
theorem dX9_lay_90 : decode cX9_lay 90 = .ok (.iastore, 1) := by decide +kernel
theorem dX9_lay_91 : decode cX9_lay 91 = .ok (.iinc 3 1, 3) := by decide +kernel
theorem dX9_lay_94 : decode cX9_lay 94 = .ok (.goto (-80), 3) := by decide +kernel
theorem dX9_lay_97 : decode cX9_lay 97 = .ok (.aload_n 0, 1) := by decide +kernel
theorem dX9_lay_98 : decode cX9_lay 98 = .ok (.invokevirtual 97, 3) := by decide +kernel
theorem dX9_lay_101 : decode cX9_lay 101 = .ok (.aload_n 0, 1) := by decide +kernel
theorem dX9_lay_102 : decode cX9_lay 102 = .ok (.invokevirtual 100, 3) := by decide +kernel
theorem dX9_lay_105 : decode cX9_lay 105 = .ok (.return_, 1) := by decide +kernel
set_option maxHeartbeats 4000000 in
set_option maxRecDepth 100000 in
theorem w_X9_lay_j90 {w : WT} {l : Launch} {p : Program} {e : Env} {s : State} {m : MethodId} {args : Array Value} {below : List Frame} {meth : Method} {c : Code} (C : KC w p s m args meth c cX9_lay 5 RX9 none) {v2 : Int32} {v3 : Int32} {s1 : Int32} {s2 : Int32} {M : Mem} {L : Lng} {Q : State → Prop} {o : (Int32 × Mem) ⊕ (Mem)} (hf : f_X9_lay_j90 v2 v3 s1 s2 M = some o) (hA : ∀ z, o = .inl z → AtL w p l e ({ frames := 5, cells := 0, slots := 0, locals := 107 } : Room) s m args below meth c Q 5 14 z.2 L [(0, .ref (wAd w 90)), (2, .int v2), (3, .int z.1)] []) (hE : ∀ y, o = .inr y → AtL w p l e ({ frames := 5, cells := 0, slots := 0, locals := 107 } : Room) s m args below meth c Q 5 97 y L [(0, .ref (wAd w 90))] []) : AtL w p l e ({ frames := 5, cells := 0, slots := 0, locals := 107 } : Room) s m args below meth c Q 5 90 M L [(0, .ref (wAd w 90)), (2, .int v2), (3, .int v3)] [.int s2, .int s1, .ref (wAd w 95)] := by
  intro H locs ls hP hS hl
  unfold f_X9_lay_j90 at hf
  obtain ⟨M9, hM9, hf⟩ := ob hf
  refine k_iast C hP hS (la_Model_wind h0_Model) (ar_Model_wind h0_Model w L) hM9 dX9_lay_90 (fun H locs hP hS => ?_)
  refine lv_iinc (v := (v3 + 1)) (lv' := [(3, .int (v3 + 1)), (0, .ref (wAd w 90)), (2, .int v2)]) C.1 C.2.1 dX9_lay_91 hl (k := 2) rfl rfl (by decide) rfl (fun ls hl => ?_)
  refine lv_goto (tgt := 14) C.1 C.2.1 dX9_lay_94 (by decide) ?_
  cases hf
  exact hA _ rfl _ _ _ hP hS (lv_sub hl [1, 2, 0] rfl)
set_option maxHeartbeats 4000000 in
set_option maxRecDepth 100000 in
theorem w_X9_lay_j63 {w : WT} {l : Launch} {p : Program} {e : Env} {s : State} {m : MethodId} {args : Array Value} {below : List Frame} {meth : Method} {c : Code} (C : KC w p s m args meth c cX9_lay 5 RX9 none) {v2 : Int32} {v3 : Int32} {v4 : Int32} {s1 : Int32} {s2 : Int32} {M : Mem} {L : Lng} {Q : State → Prop} {o : (Int32 × Mem) ⊕ (Mem)} (hf : f_X9_lay_j63 v2 v3 v4 s1 s2 M = some o) (hA : ∀ z, o = .inl z → AtL w p l e ({ frames := 5, cells := 0, slots := 0, locals := 107 } : Room) s m args below meth c Q 5 14 z.2 L [(0, .ref (wAd w 90)), (2, .int v2), (3, .int z.1)] []) (hE : ∀ y, o = .inr y → AtL w p l e ({ frames := 5, cells := 0, slots := 0, locals := 107 } : Room) s m args below meth c Q 5 97 y L [(0, .ref (wAd w 90))] []) : AtL w p l e ({ frames := 5, cells := 0, slots := 0, locals := 107 } : Room) s m args below meth c Q 5 63 M L [(0, .ref (wAd w 90)), (2, .int v2), (3, .int v3), (4, .int v4)] [.int s2, .int s1, .ref (wAd w 94)] := by
  intro H locs ls hP hS hl
  unfold f_X9_lay_j63 at hf
  obtain ⟨M7, hM7, hf⟩ := ob hf
  refine k_iast C hP hS (la_Model_level h0_Model) (ar_Model_level h0_Model w L) hM7 dX9_lay_63 (fun H locs hP hS => ?_)
  refine lv_aload_n C.1 C.2.1 dX9_lay_64 rfl (lv_at hl 0 rfl) ?_
  refine k_get (v := .ref (wAd w 95)) C hP (lt_Model h0_Model) (ob_Model h0_Model w L _) rfl iX9 8 (by decide) q871 rfl dX9_lay_65 ?_
  refine lv_iload_n C.1 C.2.1 dX9_lay_68 rfl (lv_at hl 2 rfl) ?_
  refine lv_iload C.1 C.2.1 dX9_lay_69 (lv_at hl 3 rfl) ?_
  refine lv_if_eq (tgt := 89) C.1 C.2.1 dX9_lay_71 (by decide) (fun c8 => ?_) (fun c8 => ?_)
  · have hf := (if_pos c8).symm.trans hf
    refine lv_iconst (v := 0) C.1 C.2.1 dX9_lay_89 (by decide) ?_
    exact w_X9_lay_j90 C hf hA hE _ _ _ hP hS (lv_sub hl [0, 1, 2] rfl)
  · have hf := (if_neg c8).symm.trans hf
    refine lv_aload_n C.1 C.2.1 dX9_lay_74 rfl (lv_at hl 0 rfl) ?_
    refine k_get (v := .ref (wAd w 91)) C hP (lt_Model h0_Model) (ob_Model h0_Model w L _) rfl iX9 1 (by decide) q864 rfl dX9_lay_75 ?_
    refine lv_iconst (v := 1) C.1 C.2.1 dX9_lay_78 (by decide) ?_
    refine lv_iconst (v := 2) C.1 C.2.1 dX9_lay_79 (by decide) ?_
    refine lv_iload_n C.1 C.2.1 dX9_lay_80 rfl (lv_at hl 2 rfl) ?_
    refine lv_imul C.1 C.2.1 dX9_lay_81 ?_
    refine lv_iadd C.1 C.2.1 dX9_lay_82 ?_
    refine lv_iconst (v := 1) C.1 C.2.1 dX9_lay_83 (by decide) ?_
    refine lv_iadd C.1 C.2.1 dX9_lay_84 ?_
    obtain ⟨x10, hx10, hf⟩ := ob hf
    refine k_iald C hP (la_Model_z h0_Model) (ar_Model_z h0_Model w L _) hx10 dX9_lay_85 ?_
    refine lv_goto (tgt := 90) C.1 C.2.1 dX9_lay_86 (by decide) ?_
    exact w_X9_lay_j90 C hf hA hE _ _ _ hP hS (lv_sub hl [0, 1, 2] rfl)
set_option maxHeartbeats 4000000 in
set_option maxRecDepth 100000 in
theorem w_X9_lay_j37 {w : WT} {l : Launch} {p : Program} {e : Env} {s : State} {m : MethodId} {args : Array Value} {below : List Frame} {meth : Method} {c : Code} (C : KC w p s m args meth c cX9_lay 5 RX9 none) {v2 : Int32} {v3 : Int32} {s0 : Int32} {M : Mem} {L : Lng} {Q : State → Prop} {o : (Int32 × Mem) ⊕ (Mem)} (hf : f_X9_lay_j37 v2 v3 s0 M = some o) (hA : ∀ z, o = .inl z → AtL w p l e ({ frames := 5, cells := 0, slots := 0, locals := 107 } : Room) s m args below meth c Q 5 14 z.2 L [(0, .ref (wAd w 90)), (2, .int v2), (3, .int z.1)] []) (hE : ∀ y, o = .inr y → AtL w p l e ({ frames := 5, cells := 0, slots := 0, locals := 107 } : Room) s m args below meth c Q 5 97 y L [(0, .ref (wAd w 90))] []) : AtL w p l e ({ frames := 5, cells := 0, slots := 0, locals := 107 } : Room) s m args below meth c Q 5 37 M L [(0, .ref (wAd w 90)), (2, .int v2), (3, .int v3)] [.int s0] := by
  intro H locs ls hP hS hl
  unfold f_X9_lay_j37 at hf
  refine lv_istore (lv' := [(4, .int s0), (0, .ref (wAd w 90)), (2, .int v2), (3, .int v3)]) C.1 C.2.1 dX9_lay_37 hl (by decide) rfl (fun ls hl => ?_)
  refine lv_aload_n C.1 C.2.1 dX9_lay_39 rfl (lv_at hl 1 rfl) ?_
  refine k_get (v := .ref (wAd w 94)) C hP (lt_Model h0_Model) (ob_Model h0_Model w L _) rfl iX9 7 (by decide) q870 rfl dX9_lay_40 ?_
  refine lv_iload_n C.1 C.2.1 dX9_lay_43 rfl (lv_at hl 3 rfl) ?_
  refine lv_iload C.1 C.2.1 dX9_lay_44 (lv_at hl 0 rfl) ?_
  refine lv_if_eq (tgt := 62) C.1 C.2.1 dX9_lay_46 (by decide) (fun c6 => ?_) (fun c6 => ?_)
  · have hf := (if_pos c6).symm.trans hf
    refine lv_iload_n C.1 C.2.1 dX9_lay_62 rfl (lv_at hl 2 rfl) ?_
    exact w_X9_lay_j63 C hf hA hE _ _ _ hP hS (lv_sub hl [1, 2, 3, 0] rfl)
  · have hf := (if_neg c6).symm.trans hf
    refine lv_aload_n C.1 C.2.1 dX9_lay_49 rfl (lv_at hl 1 rfl) ?_
    refine k_get (v := .ref (wAd w 91)) C hP (lt_Model h0_Model) (ob_Model h0_Model w L _) rfl iX9 1 (by decide) q864 rfl dX9_lay_50 ?_
    refine lv_iconst (v := 1) C.1 C.2.1 dX9_lay_53 (by decide) ?_
    refine lv_iconst (v := 2) C.1 C.2.1 dX9_lay_54 (by decide) ?_
    refine lv_iload_n C.1 C.2.1 dX9_lay_55 rfl (lv_at hl 3 rfl) ?_
    refine lv_imul C.1 C.2.1 dX9_lay_56 ?_
    refine lv_iadd C.1 C.2.1 dX9_lay_57 ?_
    obtain ⟨x11, hx11, hf⟩ := ob hf
    refine k_iald C hP (la_Model_z h0_Model) (ar_Model_z h0_Model w L _) hx11 dX9_lay_58 ?_
    refine lv_goto (tgt := 63) C.1 C.2.1 dX9_lay_59 (by decide) ?_
    exact w_X9_lay_j63 C hf hA hE _ _ _ hP hS (lv_sub hl [1, 2, 3, 0] rfl)
set_option maxHeartbeats 4000000 in
set_option maxRecDepth 100000 in
theorem w_X9_lay_l14 {w : WT} {l : Launch} {p : Program} {e : Env} {s : State} {m : MethodId} {args : Array Value} {below : List Frame} {meth : Method} {c : Code} (C : KC w p s m args meth c cX9_lay 5 RX9 none) {v2 : Int32} {L : Lng} {Q : State → Prop} (z : Int32 × Mem) (o : (Int32 × Mem) ⊕ (Mem)) (hf : f_X9_lay_l14 v2 z = some o) (hA : ∀ z, o = .inl z → AtL w p l e ({ frames := 5, cells := 0, slots := 0, locals := 107 } : Room) s m args below meth c Q 5 14 z.2 L [(0, .ref (wAd w 90)), (2, .int v2), (3, .int z.1)] []) (hE : ∀ y, o = .inr y → AtL w p l e ({ frames := 5, cells := 0, slots := 0, locals := 107 } : Room) s m args below meth c Q 5 97 y L [(0, .ref (wAd w 90))] []) : AtL w p l e ({ frames := 5, cells := 0, slots := 0, locals := 107 } : Room) s m args below meth c Q 5 14 z.2 L [(0, .ref (wAd w 90)), (2, .int v2), (3, .int z.1)] [] := by
  intro H locs ls hP hS hl
  unfold f_X9_lay_l14 at hf
  refine lv_iload_n C.1 C.2.1 dX9_lay_14 rfl (lv_at hl 2 rfl) ?_
  refine lv_aload_n C.1 C.2.1 dX9_lay_15 rfl (lv_at hl 0 rfl) ?_
  refine k_get (v := .int (z.2 90 6)) C hP (lt_Model h0_Model) (ob_Model h0_Model w L _) rfl iX9 6 (by decide) q869 rfl dX9_lay_16 ?_
  refine lv_icmp_ge (tgt := 97) C.1 C.2.1 dX9_lay_19 (by decide) (fun c3 => ?_) (fun c3 => ?_)
  · have hf := (if_pos c3).symm.trans hf
    cases hf
    exact hE _ rfl _ _ _ hP hS (lv_sub hl [0] rfl)
  · have hf := (if_neg c3).symm.trans hf
    refine lv_iload_n C.1 C.2.1 dX9_lay_22 rfl (lv_at hl 2 rfl) ?_
    refine lv_aload_n C.1 C.2.1 dX9_lay_23 rfl (lv_at hl 0 rfl) ?_
    refine k_get (v := .ref (wAd w 91)) C hP (lt_Model h0_Model) (ob_Model h0_Model w L _) rfl iX9 1 (by decide) q864 rfl dX9_lay_24 ?_
    refine lv_iconst (v := 0) C.1 C.2.1 dX9_lay_27 (by decide) ?_
    obtain ⟨x4, hx4, hf⟩ := ob hf
    refine k_iald C hP (la_Model_z h0_Model) (ar_Model_z h0_Model w L _) hx4 dX9_lay_28 ?_
    refine lv_icmp_ge (tgt := 36) C.1 C.2.1 dX9_lay_29 (by decide) (fun c5 => ?_) (fun c5 => ?_)
    · have hf := (if_pos c5).symm.trans hf
      refine lv_iconst (v := 0) C.1 C.2.1 dX9_lay_36 (by decide) ?_
      exact w_X9_lay_j37 C hf hA hE _ _ _ hP hS hl
    · have hf := (if_neg c5).symm.trans hf
      refine lv_iconst (v := 1) C.1 C.2.1 dX9_lay_32 (by decide) ?_
      refine lv_goto (tgt := 37) C.1 C.2.1 dX9_lay_33 (by decide) ?_
      exact w_X9_lay_j37 C hf hA hE _ _ _ hP hS hl
set_option maxHeartbeats 4000000 in
set_option maxRecDepth 100000 in
theorem c_X9_lay (w : WT) (l : Launch) (hw : WOK w) {a1 : Int32} {a2 : Int32} {M : Mem} {L : Lng} {out : Mem} (hf : f_X9_lay a1 a2 M = some out) : Met l yX9_lay (Cond.code yX9_lay cX9_lay 5 none :: BG) ({ frames := 5, cells := 0, slots := 0, locals := 107 } : Room) (PRE w [.ref (wAd w 90), .int a1, .int a2] M L) (QV w out L) 0 0 (wA w) := by
  refine kEnt hw (by decide +kernel) rfl (Nat.le_of_ble_eq_true rfl) ?_
  intro p e s m args below meth c C ls hl hP
  have hS : va_S (wA w) s.heap s.heap [] := va_S.rf
  have hl : lv_has ls 5 [(0, .ref (wAd w 90)), (1, .int a1), (2, .int a2)] := hl
  unfold f_X9_lay at hf
  refine lv_aload_n C.1 C.2.1 dX9_lay_0 rfl (lv_at hl 0 rfl) ?_
  refine lv_aload_n C.1 C.2.1 dX9_lay_1 rfl (lv_at hl 0 rfl) ?_
  refine k_get (v := .ref (wAd w 91)) C hP (lt_Model h0_Model) (ob_Model h0_Model w L _) rfl iX9 1 (by decide) q864 rfl dX9_lay_2 ?_
  refine lv_iconst (v := 0) C.1 C.2.1 dX9_lay_5 (by decide) ?_
  obtain ⟨x1, hx1, hf⟩ := ob hf
  refine k_iald C hP (la_Model_z h0_Model) (ar_Model_z h0_Model w L _) hx1 dX9_lay_6 ?_
  refine lv_iload_n C.1 C.2.1 dX9_lay_7 rfl (lv_at hl 1 rfl) ?_
  refine lv_iadd C.1 C.2.1 dX9_lay_8 ?_
  obtain ⟨M2, hM2, hf⟩ := ob hf
  refine k_puti C hP hS (lt_Model h0_Model) (fun row => ob_Model h0_Model w L row) rfl iX9 tyX9 tyX9_ok nmX9 6 (by decide) q869 rfl rfl (Nat.le_of_ble_eq_true rfl) rfl hM2 dX9_lay_9 (fun H locs hP hS => ?_)
  refine lv_iconst (v := 0) C.1 C.2.1 dX9_lay_12 (by decide) ?_
  refine lv_istore_n (lv' := [(3, .int 0), (0, .ref (wAd w 90)), (1, .int a1), (2, .int a2)]) C.1 C.2.1 dX9_lay_13 rfl hl (by decide) rfl (fun ls hl => ?_)
  obtain ⟨o12, ho12, hf⟩ := ob hf
  refine loop_at (w_X9_lay_l14 C) FU _ o12 ho12 ?_ _ _ _ hP hS (lv_sub hl [1, 3, 0] rfl)
  intro H locs ls hP hS hl
  refine lv_aload_n C.1 C.2.1 dX9_lay_97 rfl (lv_at hl 0 rfl) ?_
  obtain ⟨r13, hr13, hf⟩ := ob hf
  refine kcv (kV (As := []) (rest := []) C hl.1 hP hS (c_X9_layArms w l C.2.2.2.2.2.2.2.2 (L := L) hr13) (gV q1000 q1002 qp29 q10 q1003) hd_X9_layArms (lt_Model h0_Model) (ob_Model h0_Model w L _) rfl ⟨rfl, rfl⟩ ⟨Nat.le_of_ble_eq_true rfl, Nat.le_of_ble_eq_true rfl⟩ rfl rfl (Nat.le_of_ble_eq_true rfl) dX9_lay_98 ⟨Nat.zero_le _, Nat.zero_le _⟩) hS (fun H locs hP hS => ?_)
  refine lv_aload_n C.1 C.2.1 dX9_lay_101 rfl (lv_at hl 0 rfl) ?_
  obtain ⟨r14, hr14, hf⟩ := ob hf
  refine kcv (kV (As := []) (rest := []) C hl.1 hP hS (c_X9_layExceedances w l C.2.2.2.2.2.2.2.2 (L := L) hr14) (gV q1004 q1006 qp30 q10 q1007) hd_X9_layExceedances (lt_Model h0_Model) (ob_Model h0_Model w L _) rfl ⟨rfl, rfl⟩ ⟨Nat.le_of_ble_eq_true rfl, Nat.le_of_ble_eq_true rfl⟩ rfl rfl (Nat.le_of_ble_eq_true rfl) dX9_lay_102 ⟨Nat.zero_le _, Nat.zero_le _⟩) hS (fun H locs hP hS => ?_)
  cases hf
  exact krv C hP hS dX9_lay_105
theorem dX9_matchFor_0 : decode cX9_matchFor 0 = .ok (.iconst (-1), 1) := by decide +kernel
theorem dX9_matchFor_1 : decode cX9_matchFor 1 = .ok (.istore_n 2, 1) := by decide +kernel
theorem dX9_matchFor_2 : decode cX9_matchFor 2 = .ok (.iconst 0, 1) := by decide +kernel
theorem dX9_matchFor_3 : decode cX9_matchFor 3 = .ok (.istore_n 3, 1) := by decide +kernel
theorem dX9_matchFor_4 : decode cX9_matchFor 4 = .ok (.iload_n 3, 1) := by decide +kernel
theorem dX9_matchFor_5 : decode cX9_matchFor 5 = .ok (.aload_n 0, 1) := by decide +kernel
theorem dX9_matchFor_6 : decode cX9_matchFor 6 = .ok (.getfield 83, 3) := by decide +kernel
theorem dX9_matchFor_9 : decode cX9_matchFor 9 = .ok (.if_icmp .ge 84, 3) := by decide +kernel
theorem dX9_matchFor_12 : decode cX9_matchFor 12 = .ok (.aload_n 0, 1) := by decide +kernel
theorem dX9_matchFor_13 : decode cX9_matchFor 13 = .ok (.getfield 55, 3) := by decide +kernel
theorem dX9_matchFor_16 : decode cX9_matchFor 16 = .ok (.iload_n 3, 1) := by decide +kernel
theorem dX9_matchFor_17 : decode cX9_matchFor 17 = .ok (.iaload, 1) := by decide +kernel
theorem dX9_matchFor_18 : decode cX9_matchFor 18 = .ok (.iconst (-1), 1) := by decide +kernel
theorem dX9_matchFor_19 : decode cX9_matchFor 19 = .ok (.if_icmp .ne 34, 3) := by decide +kernel
theorem dX9_matchFor_22 : decode cX9_matchFor 22 = .ok (.aload_n 0, 1) := by decide +kernel
theorem dX9_matchFor_23 : decode cX9_matchFor 23 = .ok (.getfield 37, 3) := by decide +kernel
theorem dX9_matchFor_26 : decode cX9_matchFor 26 = .ok (.iload_n 3, 1) := by decide +kernel
theorem dX9_matchFor_27 : decode cX9_matchFor 27 = .ok (.iaload, 1) := by decide +kernel
theorem dX9_matchFor_28 : decode cX9_matchFor 28 = .ok (.iload_n 1, 1) := by decide +kernel
theorem dX9_matchFor_29 : decode cX9_matchFor 29 = .ok (.if_icmp .gt 24, 3) := by decide +kernel
theorem dX9_matchFor_32 : decode cX9_matchFor 32 = .ok (.aload_n 0, 1) := by decide +kernel
theorem dX9_matchFor_33 : decode cX9_matchFor 33 = .ok (.getfield 40, 3) := by decide +kernel
theorem dX9_matchFor_36 : decode cX9_matchFor 36 = .ok (.iload_n 3, 1) := by decide +kernel
theorem dX9_matchFor_37 : decode cX9_matchFor 37 = .ok (.iaload, 1) := by decide +kernel
theorem dX9_matchFor_38 : decode cX9_matchFor 38 = .ok (.iload_n 1, 1) := by decide +kernel
theorem dX9_matchFor_39 : decode cX9_matchFor 39 = .ok (.aload_n 0, 1) := by decide +kernel
theorem dX9_matchFor_40 : decode cX9_matchFor 40 = .ok (.bipush 7, 2) := by decide +kernel
theorem dX9_matchFor_42 : decode cX9_matchFor 42 = .ok (.invokevirtual 69, 3) := by decide +kernel
theorem dX9_matchFor_45 : decode cX9_matchFor 45 = .ok (.isub, 1) := by decide +kernel
theorem dX9_matchFor_46 : decode cX9_matchFor 46 = .ok (.if_icmp .lt 7, 3) := by decide +kernel
theorem dX9_matchFor_49 : decode cX9_matchFor 49 = .ok (.iconst 1, 1) := by decide +kernel
theorem dX9_matchFor_50 : decode cX9_matchFor 50 = .ok (.goto 4, 3) := by decide +kernel
theorem dX9_matchFor_53 : decode cX9_matchFor 53 = .ok (.iconst 0, 1) := by decide +kernel
theorem dX9_matchFor_54 : decode cX9_matchFor 54 = .ok (.istore 4, 2) := by decide +kernel
theorem dX9_matchFor_56 : decode cX9_matchFor 56 = .ok (.iload 4, 2) := by decide +kernel
theorem dX9_matchFor_58 : decode cX9_matchFor 58 = .ok (.ifCond .eq 27, 3) := by decide +kernel
theorem dX9_matchFor_61 : decode cX9_matchFor 61 = .ok (.iload_n 2, 1) := by decide +kernel
theorem dX9_matchFor_62 : decode cX9_matchFor 62 = .ok (.iconst (-1), 1) := by decide +kernel
theorem dX9_matchFor_63 : decode cX9_matchFor 63 = .ok (.if_icmp .eq 18, 3) := by decide +kernel
theorem dX9_matchFor_66 : decode cX9_matchFor 66 = .ok (.aload_n 0, 1) := by decide +kernel
theorem dX9_matchFor_67 : decode cX9_matchFor 67 = .ok (.getfield 46, 3) := by decide +kernel
theorem dX9_matchFor_70 : decode cX9_matchFor 70 = .ok (.iload_n 3, 1) := by decide +kernel
theorem dX9_matchFor_71 : decode cX9_matchFor 71 = .ok (.iaload, 1) := by decide +kernel
theorem dX9_matchFor_72 : decode cX9_matchFor 72 = .ok (.aload_n 0, 1) := by decide +kernel
theorem dX9_matchFor_73 : decode cX9_matchFor 73 = .ok (.getfield 46, 3) := by decide +kernel
theorem dX9_matchFor_76 : decode cX9_matchFor 76 = .ok (.iload_n 2, 1) := by decide +kernel
theorem dX9_matchFor_77 : decode cX9_matchFor 77 = .ok (.iaload, 1) := by decide +kernel
theorem dX9_matchFor_78 : decode cX9_matchFor 78 = .ok (.if_icmp .le 7, 3) := by decide +kernel
theorem dX9_matchFor_81 : decode cX9_matchFor 81 = .ok (.iload_n 3, 1) := by decide +kernel
theorem dX9_matchFor_82 : decode cX9_matchFor 82 = .ok (.goto 4, 3) := by decide +kernel
theorem dX9_matchFor_85 : decode cX9_matchFor 85 = .ok (.iload_n 2, 1) := by decide +kernel
theorem dX9_matchFor_86 : decode cX9_matchFor 86 = .ok (.istore_n 2, 1) := by decide +kernel
theorem dX9_matchFor_87 : decode cX9_matchFor 87 = .ok (.iinc 3 1, 3) := by decide +kernel
theorem dX9_matchFor_90 : decode cX9_matchFor 90 = .ok (.goto (-86), 3) := by decide +kernel
theorem dX9_matchFor_93 : decode cX9_matchFor 93 = .ok (.iload_n 2, 1) := by decide +kernel
theorem dX9_matchFor_94 : decode cX9_matchFor 94 = .ok (.ireturn, 1) := by decide +kernel
set_option maxHeartbeats 4000000 in
set_option maxRecDepth 100000 in
theorem w_X9_matchFor_j86 {w : WT} {l : Launch} {p : Program} {e : Env} {s : State} {m : MethodId} {args : Array Value} {below : List Frame} {meth : Method} {c : Code} (C : KC w p s m args meth c cX9_matchFor 5 RX9 (some .int)) {v1 : Int32} {v3 : Int32} {s0 : Int32} {M : Mem} {L : Lng} {Q : State → Prop} {o : (Int32 × Int32) ⊕ (Int32)} (hf : f_X9_matchFor_j86 v1 v3 s0 M = some o) (hA : ∀ z, o = .inl z → AtL w p l e ({ frames := 1, cells := 0, slots := 0, locals := 21 } : Room) s m args below meth c Q 5 4 M L [(0, .ref (wAd w 90)), (1, .int v1), (2, .int z.1), (3, .int z.2)] []) (hE : ∀ y, o = .inr y → AtL w p l e ({ frames := 1, cells := 0, slots := 0, locals := 21 } : Room) s m args below meth c Q 5 93 M L [(2, .int y)] []) : AtL w p l e ({ frames := 1, cells := 0, slots := 0, locals := 21 } : Room) s m args below meth c Q 5 86 M L [(0, .ref (wAd w 90)), (1, .int v1), (3, .int v3)] [.int s0] := by
  intro H locs ls hP hS hl
  unfold f_X9_matchFor_j86 at hf
  refine lv_istore_n (lv' := [(2, .int s0), (0, .ref (wAd w 90)), (1, .int v1), (3, .int v3)]) C.1 C.2.1 dX9_matchFor_86 rfl hl (by decide) rfl (fun ls hl => ?_)
  refine lv_iinc (v := (v3 + 1)) (lv' := [(3, .int (v3 + 1)), (2, .int s0), (0, .ref (wAd w 90)), (1, .int v1)]) C.1 C.2.1 dX9_matchFor_87 hl (k := 3) rfl rfl (by decide) rfl (fun ls hl => ?_)
  refine lv_goto (tgt := 4) C.1 C.2.1 dX9_matchFor_90 (by decide) ?_
  cases hf
  exact hA _ rfl _ _ _ hP hS (lv_sub hl [2, 3, 1, 0] rfl)
set_option maxHeartbeats 4000000 in
set_option maxRecDepth 100000 in
theorem w_X9_matchFor_j85 {w : WT} {l : Launch} {p : Program} {e : Env} {s : State} {m : MethodId} {args : Array Value} {below : List Frame} {meth : Method} {c : Code} (C : KC w p s m args meth c cX9_matchFor 5 RX9 (some .int)) {v1 : Int32} {v2 : Int32} {v3 : Int32} {M : Mem} {L : Lng} {Q : State → Prop} {o : (Int32 × Int32) ⊕ (Int32)} (hf : f_X9_matchFor_j85 v1 v2 v3 M = some o) (hA : ∀ z, o = .inl z → AtL w p l e ({ frames := 1, cells := 0, slots := 0, locals := 21 } : Room) s m args below meth c Q 5 4 M L [(0, .ref (wAd w 90)), (1, .int v1), (2, .int z.1), (3, .int z.2)] []) (hE : ∀ y, o = .inr y → AtL w p l e ({ frames := 1, cells := 0, slots := 0, locals := 21 } : Room) s m args below meth c Q 5 93 M L [(2, .int y)] []) : AtL w p l e ({ frames := 1, cells := 0, slots := 0, locals := 21 } : Room) s m args below meth c Q 5 85 M L [(0, .ref (wAd w 90)), (1, .int v1), (2, .int v2), (3, .int v3)] [] := by
  intro H locs ls hP hS hl
  unfold f_X9_matchFor_j85 at hf
  refine lv_iload_n C.1 C.2.1 dX9_matchFor_85 rfl (lv_at hl 2 rfl) ?_
  exact w_X9_matchFor_j86 C hf hA hE _ _ _ hP hS (lv_sub hl [0, 1, 3] rfl)
set_option maxHeartbeats 4000000 in
set_option maxRecDepth 100000 in
theorem w_X9_matchFor_j81 {w : WT} {l : Launch} {p : Program} {e : Env} {s : State} {m : MethodId} {args : Array Value} {below : List Frame} {meth : Method} {c : Code} (C : KC w p s m args meth c cX9_matchFor 5 RX9 (some .int)) {v1 : Int32} {v3 : Int32} {M : Mem} {L : Lng} {Q : State → Prop} {o : (Int32 × Int32) ⊕ (Int32)} (hf : f_X9_matchFor_j81 v1 v3 M = some o) (hA : ∀ z, o = .inl z → AtL w p l e ({ frames := 1, cells := 0, slots := 0, locals := 21 } : Room) s m args below meth c Q 5 4 M L [(0, .ref (wAd w 90)), (1, .int v1), (2, .int z.1), (3, .int z.2)] []) (hE : ∀ y, o = .inr y → AtL w p l e ({ frames := 1, cells := 0, slots := 0, locals := 21 } : Room) s m args below meth c Q 5 93 M L [(2, .int y)] []) : AtL w p l e ({ frames := 1, cells := 0, slots := 0, locals := 21 } : Room) s m args below meth c Q 5 81 M L [(0, .ref (wAd w 90)), (1, .int v1), (3, .int v3)] [] := by
  intro H locs ls hP hS hl
  unfold f_X9_matchFor_j81 at hf
  refine lv_iload_n C.1 C.2.1 dX9_matchFor_81 rfl (lv_at hl 2 rfl) ?_
  refine lv_goto (tgt := 86) C.1 C.2.1 dX9_matchFor_82 (by decide) ?_
  exact w_X9_matchFor_j86 C hf hA hE _ _ _ hP hS hl
set_option maxHeartbeats 4000000 in
set_option maxRecDepth 100000 in
theorem w_X9_matchFor_j54 {w : WT} {l : Launch} {p : Program} {e : Env} {s : State} {m : MethodId} {args : Array Value} {below : List Frame} {meth : Method} {c : Code} (C : KC w p s m args meth c cX9_matchFor 5 RX9 (some .int)) {v1 : Int32} {v2 : Int32} {v3 : Int32} {s0 : Int32} {M : Mem} {L : Lng} {Q : State → Prop} {o : (Int32 × Int32) ⊕ (Int32)} (hf : f_X9_matchFor_j54 v1 v2 v3 s0 M = some o) (hA : ∀ z, o = .inl z → AtL w p l e ({ frames := 1, cells := 0, slots := 0, locals := 21 } : Room) s m args below meth c Q 5 4 M L [(0, .ref (wAd w 90)), (1, .int v1), (2, .int z.1), (3, .int z.2)] []) (hE : ∀ y, o = .inr y → AtL w p l e ({ frames := 1, cells := 0, slots := 0, locals := 21 } : Room) s m args below meth c Q 5 93 M L [(2, .int y)] []) : AtL w p l e ({ frames := 1, cells := 0, slots := 0, locals := 21 } : Room) s m args below meth c Q 5 54 M L [(0, .ref (wAd w 90)), (1, .int v1), (2, .int v2), (3, .int v3)] [.int s0] := by
  intro H locs ls hP hS hl
  unfold f_X9_matchFor_j54 at hf
  refine lv_istore (lv' := [(4, .int s0), (0, .ref (wAd w 90)), (1, .int v1), (2, .int v2), (3, .int v3)]) C.1 C.2.1 dX9_matchFor_54 hl (by decide) rfl (fun ls hl => ?_)
  refine lv_iload C.1 C.2.1 dX9_matchFor_56 (lv_at hl 0 rfl) ?_
  refine lv_if_eq (tgt := 85) C.1 C.2.1 dX9_matchFor_58 (by decide) (fun c4 => ?_) (fun c4 => ?_)
  · have hf := (if_pos c4).symm.trans hf
    exact w_X9_matchFor_j85 C hf hA hE _ _ _ hP hS (lv_sub hl [1, 2, 3, 4] rfl)
  · have hf := (if_neg c4).symm.trans hf
    refine lv_iload_n C.1 C.2.1 dX9_matchFor_61 rfl (lv_at hl 3 rfl) ?_
    refine lv_iconst (v := (-1)) C.1 C.2.1 dX9_matchFor_62 (by decide) ?_
    refine lv_icmp_eq (tgt := 81) C.1 C.2.1 dX9_matchFor_63 (by decide) (fun c5 => ?_) (fun c5 => ?_)
    · have hf := (if_pos c5).symm.trans hf
      exact w_X9_matchFor_j81 C hf hA hE _ _ _ hP hS (lv_sub hl [1, 2, 4] rfl)
    · have hf := (if_neg c5).symm.trans hf
      refine lv_aload_n C.1 C.2.1 dX9_matchFor_66 rfl (lv_at hl 1 rfl) ?_
      refine k_get (v := .ref (wAd w 103)) C hP (lt_Model h0_Model) (ob_Model h0_Model w L _) rfl iX9 17 (by decide) q880 rfl dX9_matchFor_67 ?_
      refine lv_iload_n C.1 C.2.1 dX9_matchFor_70 rfl (lv_at hl 4 rfl) ?_
      obtain ⟨x6, hx6, hf⟩ := ob hf
      refine k_iald C hP (la_Model_peak h0_Model) (ar_Model_peak h0_Model w L _) hx6 dX9_matchFor_71 ?_
      refine lv_aload_n C.1 C.2.1 dX9_matchFor_72 rfl (lv_at hl 1 rfl) ?_
      refine k_get (v := .ref (wAd w 103)) C hP (lt_Model h0_Model) (ob_Model h0_Model w L _) rfl iX9 17 (by decide) q880 rfl dX9_matchFor_73 ?_
      refine lv_iload_n C.1 C.2.1 dX9_matchFor_76 rfl (lv_at hl 3 rfl) ?_
      obtain ⟨x7, hx7, hf⟩ := ob hf
      refine k_iald C hP (la_Model_peak h0_Model) (ar_Model_peak h0_Model w L _) hx7 dX9_matchFor_77 ?_
      refine lv_icmp_le (tgt := 85) C.1 C.2.1 dX9_matchFor_78 (by decide) (fun c8 => ?_) (fun c8 => ?_)
      · have hf := (if_pos c8).symm.trans hf
        exact w_X9_matchFor_j85 C hf hA hE _ _ _ hP hS (lv_sub hl [1, 2, 3, 4] rfl)
      · have hf := (if_neg c8).symm.trans hf
        exact w_X9_matchFor_j81 C hf hA hE _ _ _ hP hS (lv_sub hl [1, 2, 4] rfl)
set_option maxHeartbeats 4000000 in
set_option maxRecDepth 100000 in
theorem w_X9_matchFor_j53 {w : WT} {l : Launch} {p : Program} {e : Env} {s : State} {m : MethodId} {args : Array Value} {below : List Frame} {meth : Method} {c : Code} (C : KC w p s m args meth c cX9_matchFor 5 RX9 (some .int)) {v1 : Int32} {v2 : Int32} {v3 : Int32} {M : Mem} {L : Lng} {Q : State → Prop} {o : (Int32 × Int32) ⊕ (Int32)} (hf : f_X9_matchFor_j53 v1 v2 v3 M = some o) (hA : ∀ z, o = .inl z → AtL w p l e ({ frames := 1, cells := 0, slots := 0, locals := 21 } : Room) s m args below meth c Q 5 4 M L [(0, .ref (wAd w 90)), (1, .int v1), (2, .int z.1), (3, .int z.2)] []) (hE : ∀ y, o = .inr y → AtL w p l e ({ frames := 1, cells := 0, slots := 0, locals := 21 } : Room) s m args below meth c Q 5 93 M L [(2, .int y)] []) : AtL w p l e ({ frames := 1, cells := 0, slots := 0, locals := 21 } : Room) s m args below meth c Q 5 53 M L [(0, .ref (wAd w 90)), (1, .int v1), (2, .int v2), (3, .int v3)] [] := by
  intro H locs ls hP hS hl
  unfold f_X9_matchFor_j53 at hf
  refine lv_iconst (v := 0) C.1 C.2.1 dX9_matchFor_53 (by decide) ?_
  exact w_X9_matchFor_j54 C hf hA hE _ _ _ hP hS hl
set_option maxHeartbeats 4000000 in
set_option maxRecDepth 100000 in
theorem w_X9_matchFor_l4 {w : WT} {l : Launch} {p : Program} {e : Env} {s : State} {m : MethodId} {args : Array Value} {below : List Frame} {meth : Method} {c : Code} (C : KC w p s m args meth c cX9_matchFor 5 RX9 (some .int)) {v1 : Int32} {M : Mem} {L : Lng} {Q : State → Prop} (z : Int32 × Int32) (o : (Int32 × Int32) ⊕ (Int32)) (hf : f_X9_matchFor_l4 v1 M z = some o) (hA : ∀ z, o = .inl z → AtL w p l e ({ frames := 1, cells := 0, slots := 0, locals := 21 } : Room) s m args below meth c Q 5 4 M L [(0, .ref (wAd w 90)), (1, .int v1), (2, .int z.1), (3, .int z.2)] []) (hE : ∀ y, o = .inr y → AtL w p l e ({ frames := 1, cells := 0, slots := 0, locals := 21 } : Room) s m args below meth c Q 5 93 M L [(2, .int y)] []) : AtL w p l e ({ frames := 1, cells := 0, slots := 0, locals := 21 } : Room) s m args below meth c Q 5 4 M L [(0, .ref (wAd w 90)), (1, .int v1), (2, .int z.1), (3, .int z.2)] [] := by
  intro H locs ls hP hS hl
  unfold f_X9_matchFor_l4 at hf
  refine lv_iload_n C.1 C.2.1 dX9_matchFor_4 rfl (lv_at hl 3 rfl) ?_
  refine lv_aload_n C.1 C.2.1 dX9_matchFor_5 rfl (lv_at hl 0 rfl) ?_
  refine k_get (v := .int (M 90 13)) C hP (lt_Model h0_Model) (ob_Model h0_Model w L _) rfl iX9 13 (by decide) q876 rfl dX9_matchFor_6 ?_
  refine lv_icmp_ge (tgt := 93) C.1 C.2.1 dX9_matchFor_9 (by decide) (fun c1 => ?_) (fun c1 => ?_)
  · have hf := (if_pos c1).symm.trans hf
    cases hf
    exact hE _ rfl _ _ _ hP hS (lv_sub hl [2] rfl)
  · have hf := (if_neg c1).symm.trans hf
    refine lv_aload_n C.1 C.2.1 dX9_matchFor_12 rfl (lv_at hl 0 rfl) ?_
    refine k_get (v := .ref (wAd w 106)) C hP (lt_Model h0_Model) (ob_Model h0_Model w L _) rfl iX9 21 (by decide) q884 rfl dX9_matchFor_13 ?_
    refine lv_iload_n C.1 C.2.1 dX9_matchFor_16 rfl (lv_at hl 3 rfl) ?_
    obtain ⟨x2, hx2, hf⟩ := ob hf
    refine k_iald C hP (la_Model_complaintOf h0_Model) (ar_Model_complaintOf h0_Model w L _) hx2 dX9_matchFor_17 ?_
    refine lv_iconst (v := (-1)) C.1 C.2.1 dX9_matchFor_18 (by decide) ?_
    refine lv_icmp_ne (tgt := 53) C.1 C.2.1 dX9_matchFor_19 (by decide) (fun c3 => ?_) (fun c3 => ?_)
    · have hf := (if_neg c3).symm.trans hf
      exact w_X9_matchFor_j53 C hf hA hE _ _ _ hP hS hl
    · have hf := (if_pos c3).symm.trans hf
      refine lv_aload_n C.1 C.2.1 dX9_matchFor_22 rfl (lv_at hl 0 rfl) ?_
      refine k_get (v := .ref (wAd w 100)) C hP (lt_Model h0_Model) (ob_Model h0_Model w L _) rfl iX9 14 (by decide) q877 rfl dX9_matchFor_23 ?_
      refine lv_iload_n C.1 C.2.1 dX9_matchFor_26 rfl (lv_at hl 3 rfl) ?_
      obtain ⟨x9, hx9, hf⟩ := ob hf
      refine k_iald C hP (la_Model_first h0_Model) (ar_Model_first h0_Model w L _) hx9 dX9_matchFor_27 ?_
      refine lv_iload_n C.1 C.2.1 dX9_matchFor_28 rfl (lv_at hl 1 rfl) ?_
      refine lv_icmp_gt (tgt := 53) C.1 C.2.1 dX9_matchFor_29 (by decide) (fun c10 => ?_) (fun c10 => ?_)
      · have hf := (if_pos c10).symm.trans hf
        exact w_X9_matchFor_j53 C hf hA hE _ _ _ hP hS hl
      · have hf := (if_neg c10).symm.trans hf
        refine lv_aload_n C.1 C.2.1 dX9_matchFor_32 rfl (lv_at hl 0 rfl) ?_
        refine k_get (v := .ref (wAd w 101)) C hP (lt_Model h0_Model) (ob_Model h0_Model w L _) rfl iX9 15 (by decide) q878 rfl dX9_matchFor_33 ?_
        refine lv_iload_n C.1 C.2.1 dX9_matchFor_36 rfl (lv_at hl 3 rfl) ?_
        obtain ⟨x11, hx11, hf⟩ := ob hf
        refine k_iald C hP (la_Model_last h0_Model) (ar_Model_last h0_Model w L _) hx11 dX9_matchFor_37 ?_
        refine lv_iload_n C.1 C.2.1 dX9_matchFor_38 rfl (lv_at hl 1 rfl) ?_
        refine lv_aload_n C.1 C.2.1 dX9_matchFor_39 rfl (lv_at hl 0 rfl) ?_
        refine lv_bipush (v := 7) C.1 C.2.1 dX9_matchFor_40 (by decide) ?_
        obtain ⟨r12, hr12, hf⟩ := ob hf
        refine kci (kV (As := [.int 7]) (rest := [.int v1, .int x11]) C hl.1 hP hS (c_X9_of w l C.2.2.2.2.2.2.2.2 (L := L) hr12) (gV q973 q975 qp25 q10 q976) hd_X9_of (lt_Model h0_Model) (ob_Model h0_Model w L _) rfl ⟨rfl, rfl⟩ ⟨Nat.le_of_ble_eq_true rfl, Nat.le_of_ble_eq_true rfl⟩ rfl rfl (Nat.le_of_ble_eq_true rfl) dX9_matchFor_42 ⟨Nat.zero_le _, Nat.zero_le _⟩) hS (fun H locs hP hS => ?_)
        refine lv_isub C.1 C.2.1 dX9_matchFor_45 ?_
        refine lv_icmp_lt (tgt := 53) C.1 C.2.1 dX9_matchFor_46 (by decide) (fun c13 => ?_) (fun c13 => ?_)
        · have hf := (if_pos c13).symm.trans hf
          exact w_X9_matchFor_j53 C hf hA hE _ _ _ hP hS hl
        · have hf := (if_neg c13).symm.trans hf
          refine lv_iconst (v := 1) C.1 C.2.1 dX9_matchFor_49 (by decide) ?_
          refine lv_goto (tgt := 54) C.1 C.2.1 dX9_matchFor_50 (by decide) ?_
          exact w_X9_matchFor_j54 C hf hA hE _ _ _ hP hS hl
set_option maxHeartbeats 4000000 in
set_option maxRecDepth 100000 in
theorem c_X9_matchFor (w : WT) (l : Launch) (hw : WOK w) {a1 : Int32} {M : Mem} {L : Lng} {out : Int32} (hf : f_X9_matchFor a1 M = some out) : Met l yX9_matchFor (Cond.code yX9_matchFor cX9_matchFor 5 (some .int) :: BG) ({ frames := 1, cells := 0, slots := 0, locals := 21 } : Room) (PRE w [.ref (wAd w 90), .int a1] M L) (QI w out M L) 0 0 (wA w) := by
  refine kEnt hw (by decide +kernel) rfl (Nat.le_of_ble_eq_true rfl) ?_
  intro p e s m args below meth c C ls hl hP
  have hS : va_S (wA w) s.heap s.heap [] := va_S.rf
  have hl : lv_has ls 5 [(0, .ref (wAd w 90)), (1, .int a1)] := hl
  unfold f_X9_matchFor at hf
  refine lv_iconst (v := (-1)) C.1 C.2.1 dX9_matchFor_0 (by decide) ?_
  refine lv_istore_n (lv' := [(2, .int (-1)), (0, .ref (wAd w 90)), (1, .int a1)]) C.1 C.2.1 dX9_matchFor_1 rfl hl (by decide) rfl (fun ls hl => ?_)
  refine lv_iconst (v := 0) C.1 C.2.1 dX9_matchFor_2 (by decide) ?_
  refine lv_istore_n (lv' := [(3, .int 0), (2, .int (-1)), (0, .ref (wAd w 90)), (1, .int a1)]) C.1 C.2.1 dX9_matchFor_3 rfl hl (by decide) rfl (fun ls hl => ?_)
  obtain ⟨o14, ho14, hf⟩ := ob hf
  refine loop_at (w_X9_matchFor_l4 C) FU _ o14 ho14 ?_ _ _ _ hP hS (lv_sub hl [2, 3, 1, 0] rfl)
  intro H locs ls hP hS hl
  refine lv_iload_n C.1 C.2.1 dX9_matchFor_93 rfl (lv_at hl 0 rfl) ?_
  cases hf
  exact kri C hP hS dX9_matchFor_94
theorem dX9_layMatches_0 : decode cX9_layMatches 0 = .ok (.iconst 0, 1) := by decide +kernel
theorem dX9_layMatches_1 : decode cX9_layMatches 1 = .ok (.istore_n 1, 1) := by decide +kernel
theorem dX9_layMatches_2 : decode cX9_layMatches 2 = .ok (.iload_n 1, 1) := by decide +kernel
theorem dX9_layMatches_3 : decode cX9_layMatches 3 = .ok (.aload_n 0, 1) := by decide +kernel
theorem dX9_layMatches_4 : decode cX9_layMatches 4 = .ok (.getfield 83, 3) := by decide +kernel
theorem dX9_layMatches_7 : decode cX9_layMatches 7 = .ok (.if_icmp .ge 16, 3) := by decide +kernel
theorem dX9_layMatches_10 : decode cX9_layMatches 10 = .ok (.aload_n 0, 1) := by decide +kernel
theorem dX9_layMatches_11 : decode cX9_layMatches 11 = .ok (.getfield 55, 3) := by decide +kernel
theorem dX9_layMatches_14 : decode cX9_layMatches 14 = .ok (.iload_n 1, 1) := by decide +kernel
theorem dX9_layMatches_15 : decode cX9_layMatches 15 = .ok (.iconst (-1), 1) := by decide +kernel
theorem dX9_layMatches_16 : decode cX9_layMatches 16 = .ok (.iastore, 1) := by decide +kernel
theorem dX9_layMatches_17 : decode cX9_layMatches 17 = .ok (.iinc 1 1, 3) := by decide +kernel
theorem dX9_layMatches_20 : decode cX9_layMatches 20 = .ok (.goto (-18), 3) := by decide +kernel
theorem dX9_layMatches_23 : decode cX9_layMatches 23 = .ok (.iconst 0, 1) := by decide +kernel
theorem dX9_layMatches_24 : decode cX9_layMatches 24 = .ok (.istore_n 1, 1) := by decide +kernel
theorem dX9_layMatches_25 : decode cX9_layMatches 25 = .ok (.iload_n 1, 1) := by decide +kernel
theorem dX9_layMatches_26 : decode cX9_layMatches 26 = .ok (.sipush 300, 3) := by decide +kernel
theorem dX9_layMatches_29 : decode cX9_layMatches 29 = .ok (.if_icmp .gt 76, 3) := by decide +kernel
theorem dX9_layMatches_32 : decode cX9_layMatches 32 = .ok (.iconst 0, 1) := by decide +kernel
theorem dX9_layMatches_33 : decode cX9_layMatches 33 = .ok (.istore_n 2, 1) := by decide +kernel
theorem dX9_layMatches_34 : decode cX9_layMatches 34 = .ok (.iload_n 2, 1) := by decide +kernel
theorem dX9_layMatches_35 : decode cX9_layMatches 35 = .ok (.aload_n 0, 1) := by decide +kernel
theorem dX9_layMatches_36 : decode cX9_layMatches 36 = .ok (.getfield 7, 3) := by decide +kernel
theorem dX9_layMatches_39 : decode cX9_layMatches 39 = .ok (.sipush 411, 3) := by decide +kernel
theorem dX9_layMatches_42 : decode cX9_layMatches 42 = .ok (.iaload, 1) := by decide +kernel
theorem dX9_layMatches_43 : decode cX9_layMatches 43 = .ok (.if_icmp .ge 56, 3) := by decide +kernel
theorem dX9_layMatches_46 : decode cX9_layMatches 46 = .ok (.aload_n 0, 1) := by decide +kernel
theorem dX9_layMatches_47 : decode cX9_layMatches 47 = .ok (.getfield 7, 3) := by decide +kernel
theorem dX9_layMatches_50 : decode cX9_layMatches 50 = .ok (.sipush 412, 3) := by decide +kernel
theorem dX9_layMatches_53 : decode cX9_layMatches 53 = .ok (.iload_n 2, 1) := by decide +kernel
theorem dX9_layMatches_54 : decode cX9_layMatches 54 = .ok (.iadd, 1) := by decide +kernel
theorem dX9_layMatches_55 : decode cX9_layMatches 55 = .ok (.iaload, 1) := by decide +kernel
theorem dX9_layMatches_56 : decode cX9_layMatches 56 = .ok (.iload_n 1, 1) := by decide +kernel
theorem dX9_layMatches_57 : decode cX9_layMatches 57 = .ok (.if_icmp .ne 36, 3) := by decide +kernel
theorem dX9_layMatches_60 : decode cX9_layMatches 60 = .ok (.aload_n 0, 1) := by decide +kernel
theorem dX9_layMatches_61 : decode cX9_layMatches 61 = .ok (.getfield 52, 3) := by decide +kernel
theorem dX9_layMatches_64 : decode cX9_layMatches 64 = .ok (.iload_n 2, 1) := by decide +kernel
theorem dX9_layMatches_65 : decode cX9_layMatches 65 = .ok (.aload_n 0, 1) := by decide +kernel
theorem dX9_layMatches_66 : decode cX9_layMatches 66 = .ok (.iload_n 1, 1) := by decide +kernel
theorem dX9_layMatches_67 : decode cX9_layMatches 67 = .ok (.invokevirtual 103, 3) := by decide +kernel
theorem dX9_layMatches_70 : decode cX9_layMatches 70 = .ok (.iastore, 1) := by decide +kernel
theorem dX9_layMatches_71 : decode cX9_layMatches 71 = .ok (.aload_n 0, 1) := by decide +kernel
theorem dX9_layMatches_72 : decode cX9_layMatches 72 = .ok (.getfield 52, 3) := by decide +kernel
theorem dX9_layMatches_75 : decode cX9_layMatches 75 = .ok (.iload_n 2, 1) := by decide +kernel
theorem dX9_layMatches_76 : decode cX9_layMatches 76 = .ok (.iaload, 1) := by decide +kernel
theorem dX9_layMatches_77 : decode cX9_layMatches 77 = .ok (.iconst (-1), 1) := by decide +kernel
theorem dX9_layMatches_78 : decode cX9_layMatches 78 = .ok (.if_icmp .eq 15, 3) := by decide +kernel
theorem dX9_layMatches_81 : decode cX9_layMatches 81 = .ok (.aload_n 0, 1) := by decide +kernel
theorem dX9_layMatches_82 : decode cX9_layMatches 82 = .ok (.getfield 55, 3) := by decide +kernel
theorem dX9_layMatches_85 : decode cX9_layMatches 85 = .ok (.aload_n 0, 1) := by decide +kernel
theorem dX9_layMatches_86 : decode cX9_layMatches 86 = .ok (.getfield 52, 3) := by decide +kernel
theorem dX9_layMatches_89 : decode cX9_layMatches 89 = .ok (.iload_n 2, 1) := by decide +kernel
theorem dX9_layMatches_90 : decode cX9_layMatches 90 = .ok (.iaload, 1) := by decide +kernel
theorem dX9_layMatches_91 : decode cX9_layMatches 91 = .ok (.iload_n 2, 1) := by decide +kernel
theorem dX9_layMatches_92 : decode cX9_layMatches 92 = .ok (.iastore, 1) := by decide +kernel
theorem dX9_layMatches_93 : decode cX9_layMatches 93 = .ok (.iinc 2 1, 3) := by decide +kernel
theorem dX9_layMatches_96 : decode cX9_layMatches 96 = .ok (.goto (-62), 3) := by decide +kernel
theorem dX9_layMatches_99 : decode cX9_layMatches 99 = .ok (.iinc 1 1, 3) := by decide +kernel
theorem dX9_layMatches_102 : decode cX9_layMatches 102 = .ok (.goto (-77), 3) := by decide +kernel
theorem dX9_layMatches_105 : decode cX9_layMatches 105 = .ok (.return_, 1) := by decide +kernel
set_option maxHeartbeats 4000000 in
set_option maxRecDepth 100000 in
theorem w_X9_layMatches_l2 {w : WT} {l : Launch} {p : Program} {e : Env} {s : State} {m : MethodId} {args : Array Value} {below : List Frame} {meth : Method} {c : Code} (C : KC w p s m args meth c cX9_layMatches 3 RX9 none) {L : Lng} {Q : State → Prop} (z : Int32 × Mem) (o : (Int32 × Mem) ⊕ (Mem)) (hf : f_X9_layMatches_l2 z = some o) (hA : ∀ z, o = .inl z → AtL w p l e ({ frames := 2, cells := 0, slots := 0, locals := 45 } : Room) s m args below meth c Q 3 2 z.2 L [(0, .ref (wAd w 90)), (1, .int z.1)] []) (hE : ∀ y, o = .inr y → AtL w p l e ({ frames := 2, cells := 0, slots := 0, locals := 45 } : Room) s m args below meth c Q 3 23 y L [(0, .ref (wAd w 90))] []) : AtL w p l e ({ frames := 2, cells := 0, slots := 0, locals := 45 } : Room) s m args below meth c Q 3 2 z.2 L [(0, .ref (wAd w 90)), (1, .int z.1)] [] := by
  intro H locs ls hP hS hl
  unfold f_X9_layMatches_l2 at hf
  refine lv_iload_n C.1 C.2.1 dX9_layMatches_2 rfl (lv_at hl 1 rfl) ?_
  refine lv_aload_n C.1 C.2.1 dX9_layMatches_3 rfl (lv_at hl 0 rfl) ?_
  refine k_get (v := .int (z.2 90 13)) C hP (lt_Model h0_Model) (ob_Model h0_Model w L _) rfl iX9 13 (by decide) q876 rfl dX9_layMatches_4 ?_
  refine lv_icmp_ge (tgt := 23) C.1 C.2.1 dX9_layMatches_7 (by decide) (fun c1 => ?_) (fun c1 => ?_)
  · have hf := (if_pos c1).symm.trans hf
    cases hf
    exact hE _ rfl _ _ _ hP hS (lv_sub hl [0] rfl)
  · have hf := (if_neg c1).symm.trans hf
    refine lv_aload_n C.1 C.2.1 dX9_layMatches_10 rfl (lv_at hl 0 rfl) ?_
    refine k_get (v := .ref (wAd w 106)) C hP (lt_Model h0_Model) (ob_Model h0_Model w L _) rfl iX9 21 (by decide) q884 rfl dX9_layMatches_11 ?_
    refine lv_iload_n C.1 C.2.1 dX9_layMatches_14 rfl (lv_at hl 1 rfl) ?_
    refine lv_iconst (v := (-1)) C.1 C.2.1 dX9_layMatches_15 (by decide) ?_
    obtain ⟨M2, hM2, hf⟩ := ob hf
    refine k_iast C hP hS (la_Model_complaintOf h0_Model) (ar_Model_complaintOf h0_Model w L) hM2 dX9_layMatches_16 (fun H locs hP hS => ?_)
    refine lv_iinc (v := (z.1 + 1)) (lv' := [(1, .int (z.1 + 1)), (0, .ref (wAd w 90))]) C.1 C.2.1 dX9_layMatches_17 hl (k := 1) rfl rfl (by decide) rfl (fun ls hl => ?_)
    refine lv_goto (tgt := 2) C.1 C.2.1 dX9_layMatches_20 (by decide) ?_
    cases hf
    exact hA _ rfl _ _ _ hP hS (lv_sub hl [1, 0] rfl)
set_option maxHeartbeats 4000000 in
set_option maxRecDepth 100000 in
theorem w_X9_layMatches_j93 {w : WT} {l : Launch} {p : Program} {e : Env} {s : State} {m : MethodId} {args : Array Value} {below : List Frame} {meth : Method} {c : Code} (C : KC w p s m args meth c cX9_layMatches 3 RX9 none) {v1 : Int32} {v2 : Int32} {M : Mem} {L : Lng} {Q : State → Prop} {o : (Int32 × Mem) ⊕ (Mem)} (hf : f_X9_layMatches_j93 v1 v2 M = some o) (hA : ∀ z, o = .inl z → AtL w p l e ({ frames := 2, cells := 0, slots := 0, locals := 45 } : Room) s m args below meth c Q 3 34 z.2 L [(0, .ref (wAd w 90)), (1, .int v1), (2, .int z.1)] []) (hE : ∀ y, o = .inr y → AtL w p l e ({ frames := 2, cells := 0, slots := 0, locals := 45 } : Room) s m args below meth c Q 3 99 y L [(0, .ref (wAd w 90)), (1, .int v1)] []) : AtL w p l e ({ frames := 2, cells := 0, slots := 0, locals := 45 } : Room) s m args below meth c Q 3 93 M L [(0, .ref (wAd w 90)), (1, .int v1), (2, .int v2)] [] := by
  intro H locs ls hP hS hl
  unfold f_X9_layMatches_j93 at hf
  refine lv_iinc (v := (v2 + 1)) (lv' := [(2, .int (v2 + 1)), (0, .ref (wAd w 90)), (1, .int v1)]) C.1 C.2.1 dX9_layMatches_93 hl (k := 2) rfl rfl (by decide) rfl (fun ls hl => ?_)
  refine lv_goto (tgt := 34) C.1 C.2.1 dX9_layMatches_96 (by decide) ?_
  cases hf
  exact hA _ rfl _ _ _ hP hS (lv_sub hl [1, 2, 0] rfl)
set_option maxHeartbeats 4000000 in
set_option maxRecDepth 100000 in
theorem w_X9_layMatches_l34 {w : WT} {l : Launch} {p : Program} {e : Env} {s : State} {m : MethodId} {args : Array Value} {below : List Frame} {meth : Method} {c : Code} (C : KC w p s m args meth c cX9_layMatches 3 RX9 none) {v1 : Int32} {L : Lng} {Q : State → Prop} (z : Int32 × Mem) (o : (Int32 × Mem) ⊕ (Mem)) (hf : f_X9_layMatches_l34 v1 z = some o) (hA : ∀ z, o = .inl z → AtL w p l e ({ frames := 2, cells := 0, slots := 0, locals := 45 } : Room) s m args below meth c Q 3 34 z.2 L [(0, .ref (wAd w 90)), (1, .int v1), (2, .int z.1)] []) (hE : ∀ y, o = .inr y → AtL w p l e ({ frames := 2, cells := 0, slots := 0, locals := 45 } : Room) s m args below meth c Q 3 99 y L [(0, .ref (wAd w 90)), (1, .int v1)] []) : AtL w p l e ({ frames := 2, cells := 0, slots := 0, locals := 45 } : Room) s m args below meth c Q 3 34 z.2 L [(0, .ref (wAd w 90)), (1, .int v1), (2, .int z.1)] [] := by
  intro H locs ls hP hS hl
  unfold f_X9_layMatches_l34 at hf
  refine lv_iload_n C.1 C.2.1 dX9_layMatches_34 rfl (lv_at hl 2 rfl) ?_
  refine lv_aload_n C.1 C.2.1 dX9_layMatches_35 rfl (lv_at hl 0 rfl) ?_
  refine k_get (v := .ref (wAd w 91)) C hP (lt_Model h0_Model) (ob_Model h0_Model w L _) rfl iX9 1 (by decide) q864 rfl dX9_layMatches_36 ?_
  refine lv_sipush (v := 411) C.1 C.2.1 dX9_layMatches_39 (by decide) ?_
  obtain ⟨x5, hx5, hf⟩ := ob hf
  refine k_iald C hP (la_Model_z h0_Model) (ar_Model_z h0_Model w L _) hx5 dX9_layMatches_42 ?_
  refine lv_icmp_ge (tgt := 99) C.1 C.2.1 dX9_layMatches_43 (by decide) (fun c6 => ?_) (fun c6 => ?_)
  · have hf := (if_pos c6).symm.trans hf
    cases hf
    exact hE _ rfl _ _ _ hP hS (lv_sub hl [0, 1] rfl)
  · have hf := (if_neg c6).symm.trans hf
    refine lv_aload_n C.1 C.2.1 dX9_layMatches_46 rfl (lv_at hl 0 rfl) ?_
    refine k_get (v := .ref (wAd w 91)) C hP (lt_Model h0_Model) (ob_Model h0_Model w L _) rfl iX9 1 (by decide) q864 rfl dX9_layMatches_47 ?_
    refine lv_sipush (v := 412) C.1 C.2.1 dX9_layMatches_50 (by decide) ?_
    refine lv_iload_n C.1 C.2.1 dX9_layMatches_53 rfl (lv_at hl 2 rfl) ?_
    refine lv_iadd C.1 C.2.1 dX9_layMatches_54 ?_
    obtain ⟨x7, hx7, hf⟩ := ob hf
    refine k_iald C hP (la_Model_z h0_Model) (ar_Model_z h0_Model w L _) hx7 dX9_layMatches_55 ?_
    refine lv_iload_n C.1 C.2.1 dX9_layMatches_56 rfl (lv_at hl 1 rfl) ?_
    refine lv_icmp_ne (tgt := 93) C.1 C.2.1 dX9_layMatches_57 (by decide) (fun c8 => ?_) (fun c8 => ?_)
    · have hf := (if_neg c8).symm.trans hf
      exact w_X9_layMatches_j93 C hf hA hE _ _ _ hP hS hl
    · have hf := (if_pos c8).symm.trans hf
      refine lv_aload_n C.1 C.2.1 dX9_layMatches_60 rfl (lv_at hl 0 rfl) ?_
      refine k_get (v := .ref (wAd w 105)) C hP (lt_Model h0_Model) (ob_Model h0_Model w L _) rfl iX9 20 (by decide) q883 rfl dX9_layMatches_61 ?_
      refine lv_iload_n C.1 C.2.1 dX9_layMatches_64 rfl (lv_at hl 2 rfl) ?_
      refine lv_aload_n C.1 C.2.1 dX9_layMatches_65 rfl (lv_at hl 0 rfl) ?_
      refine lv_iload_n C.1 C.2.1 dX9_layMatches_66 rfl (lv_at hl 1 rfl) ?_
      obtain ⟨r9, hr9, hf⟩ := ob hf
      refine kci (kV (As := [.int v1]) (rest := [.int z.1, .ref (wAd w 105)]) C hl.1 hP hS (c_X9_matchFor w l C.2.2.2.2.2.2.2.2 (L := L) hr9) (gV q1048 q1050 qp38 q10 q1051) hd_X9_matchFor (lt_Model h0_Model) (ob_Model h0_Model w L _) rfl ⟨rfl, rfl⟩ ⟨Nat.le_of_ble_eq_true rfl, Nat.le_of_ble_eq_true rfl⟩ rfl rfl (Nat.le_of_ble_eq_true rfl) dX9_layMatches_67 ⟨Nat.zero_le _, Nat.zero_le _⟩) hS (fun H locs hP hS => ?_)
      obtain ⟨M10, hM10, hf⟩ := ob hf
      refine k_iast C hP hS (la_Model_matched h0_Model) (ar_Model_matched h0_Model w L) hM10 dX9_layMatches_70 (fun H locs hP hS => ?_)
      refine lv_aload_n C.1 C.2.1 dX9_layMatches_71 rfl (lv_at hl 0 rfl) ?_
      refine k_get (v := .ref (wAd w 105)) C hP (lt_Model h0_Model) (ob_Model h0_Model w L _) rfl iX9 20 (by decide) q883 rfl dX9_layMatches_72 ?_
      refine lv_iload_n C.1 C.2.1 dX9_layMatches_75 rfl (lv_at hl 2 rfl) ?_
      obtain ⟨x11, hx11, hf⟩ := ob hf
      refine k_iald C hP (la_Model_matched h0_Model) (ar_Model_matched h0_Model w L _) hx11 dX9_layMatches_76 ?_
      refine lv_iconst (v := (-1)) C.1 C.2.1 dX9_layMatches_77 (by decide) ?_
      refine lv_icmp_eq (tgt := 93) C.1 C.2.1 dX9_layMatches_78 (by decide) (fun c12 => ?_) (fun c12 => ?_)
      · have hf := (if_pos c12).symm.trans hf
        exact w_X9_layMatches_j93 C hf hA hE _ _ _ hP hS hl
      · have hf := (if_neg c12).symm.trans hf
        refine lv_aload_n C.1 C.2.1 dX9_layMatches_81 rfl (lv_at hl 0 rfl) ?_
        refine k_get (v := .ref (wAd w 106)) C hP (lt_Model h0_Model) (ob_Model h0_Model w L _) rfl iX9 21 (by decide) q884 rfl dX9_layMatches_82 ?_
        refine lv_aload_n C.1 C.2.1 dX9_layMatches_85 rfl (lv_at hl 0 rfl) ?_
        refine k_get (v := .ref (wAd w 105)) C hP (lt_Model h0_Model) (ob_Model h0_Model w L _) rfl iX9 20 (by decide) q883 rfl dX9_layMatches_86 ?_
        refine lv_iload_n C.1 C.2.1 dX9_layMatches_89 rfl (lv_at hl 2 rfl) ?_
        obtain ⟨x13, hx13, hf⟩ := ob hf
        refine k_iald C hP (la_Model_matched h0_Model) (ar_Model_matched h0_Model w L _) hx13 dX9_layMatches_90 ?_
        refine lv_iload_n C.1 C.2.1 dX9_layMatches_91 rfl (lv_at hl 2 rfl) ?_
        obtain ⟨M14, hM14, hf⟩ := ob hf
        refine k_iast C hP hS (la_Model_complaintOf h0_Model) (ar_Model_complaintOf h0_Model w L) hM14 dX9_layMatches_92 (fun H locs hP hS => ?_)
        exact w_X9_layMatches_j93 C hf hA hE _ _ _ hP hS hl
set_option maxHeartbeats 4000000 in
set_option maxRecDepth 100000 in
theorem w_X9_layMatches_l25 {w : WT} {l : Launch} {p : Program} {e : Env} {s : State} {m : MethodId} {args : Array Value} {below : List Frame} {meth : Method} {c : Code} (C : KC w p s m args meth c cX9_layMatches 3 RX9 none) {L : Lng} {Q : State → Prop} (z : Int32 × Mem) (o : (Int32 × Mem) ⊕ (Mem)) (hf : f_X9_layMatches_l25 z = some o) (hA : ∀ z, o = .inl z → AtL w p l e ({ frames := 2, cells := 0, slots := 0, locals := 45 } : Room) s m args below meth c Q 3 25 z.2 L [(0, .ref (wAd w 90)), (1, .int z.1)] []) (hE : ∀ y, o = .inr y → AtL w p l e ({ frames := 2, cells := 0, slots := 0, locals := 45 } : Room) s m args below meth c Q 3 105 y L [] []) : AtL w p l e ({ frames := 2, cells := 0, slots := 0, locals := 45 } : Room) s m args below meth c Q 3 25 z.2 L [(0, .ref (wAd w 90)), (1, .int z.1)] [] := by
  intro H locs ls hP hS hl
  unfold f_X9_layMatches_l25 at hf
  refine lv_iload_n C.1 C.2.1 dX9_layMatches_25 rfl (lv_at hl 1 rfl) ?_
  refine lv_sipush (v := 300) C.1 C.2.1 dX9_layMatches_26 (by decide) ?_
  refine lv_icmp_gt (tgt := 105) C.1 C.2.1 dX9_layMatches_29 (by decide) (fun c4 => ?_) (fun c4 => ?_)
  · have hf := (if_pos c4).symm.trans hf
    cases hf
    exact hE _ rfl _ _ _ hP hS (lv_sub hl [] rfl)
  · have hf := (if_neg c4).symm.trans hf
    refine lv_iconst (v := 0) C.1 C.2.1 dX9_layMatches_32 (by decide) ?_
    refine lv_istore_n (lv' := [(2, .int 0), (0, .ref (wAd w 90)), (1, .int z.1)]) C.1 C.2.1 dX9_layMatches_33 rfl hl (by decide) rfl (fun ls hl => ?_)
    obtain ⟨o15, ho15, hf⟩ := ob hf
    refine loop_at (w_X9_layMatches_l34 C) FU _ o15 ho15 ?_ _ _ _ hP hS (lv_sub hl [1, 2, 0] rfl)
    intro H locs ls hP hS hl
    refine lv_iinc (v := (z.1 + 1)) (lv' := [(1, .int (z.1 + 1)), (0, .ref (wAd w 90))]) C.1 C.2.1 dX9_layMatches_99 hl (k := 1) rfl rfl (by decide) rfl (fun ls hl => ?_)
    refine lv_goto (tgt := 25) C.1 C.2.1 dX9_layMatches_102 (by decide) ?_
    cases hf
    exact hA _ rfl _ _ _ hP hS (lv_sub hl [1, 0] rfl)
set_option maxHeartbeats 4000000 in
set_option maxRecDepth 100000 in
theorem c_X9_layMatches (w : WT) (l : Launch) (hw : WOK w) {M : Mem} {L : Lng} {out : Mem} (hf : f_X9_layMatches M = some out) : Met l yX9_layMatches (Cond.code yX9_layMatches cX9_layMatches 3 none :: BG) ({ frames := 2, cells := 0, slots := 0, locals := 45 } : Room) (PRE w [.ref (wAd w 90)] M L) (QV w out L) 0 0 (wA w) := by
  refine kEnt hw (by decide +kernel) rfl (Nat.le_of_ble_eq_true rfl) ?_
  intro p e s m args below meth c C ls hl hP
  have hS : va_S (wA w) s.heap s.heap [] := va_S.rf
  have hl : lv_has ls 3 [(0, .ref (wAd w 90))] := hl
  unfold f_X9_layMatches at hf
  refine lv_iconst (v := 0) C.1 C.2.1 dX9_layMatches_0 (by decide) ?_
  refine lv_istore_n (lv' := [(1, .int 0), (0, .ref (wAd w 90))]) C.1 C.2.1 dX9_layMatches_1 rfl hl (by decide) rfl (fun ls hl => ?_)
  obtain ⟨o3, ho3, hf⟩ := ob hf
  refine loop_at (w_X9_layMatches_l2 C) FU _ o3 ho3 ?_ _ _ _ hP hS (lv_sub hl [1, 0] rfl)
  intro H locs ls hP hS hl
  refine lv_iconst (v := 0) C.1 C.2.1 dX9_layMatches_23 (by decide) ?_
  refine lv_istore_n (lv' := [(1, .int 0), (0, .ref (wAd w 90))]) C.1 C.2.1 dX9_layMatches_24 rfl hl (by decide) rfl (fun ls hl => ?_)
  obtain ⟨o16, ho16, hf⟩ := ob hf
  refine loop_at (w_X9_layMatches_l25 C) FU _ o16 ho16 ?_ _ _ _ hP hS (lv_sub hl [1, 0] rfl)
  intro H locs ls hP hS hl
  cases hf
  exact krv C hP hS dX9_layMatches_105
theorem dX9_layAll_0 : decode cX9_layAll 0 = .ok (.aload_n 0, 1) := by decide +kernel
theorem dX9_layAll_1 : decode cX9_layAll 1 = .ok (.iconst 0, 1) := by decide +kernel
theorem dX9_layAll_2 : decode cX9_layAll 2 = .ok (.iconst 0, 1) := by decide +kernel
theorem dX9_layAll_3 : decode cX9_layAll 3 = .ok (.invokevirtual 106, 3) := by decide +kernel
theorem dX9_layAll_6 : decode cX9_layAll 6 = .ok (.aload_n 0, 1) := by decide +kernel
theorem dX9_layAll_7 : decode cX9_layAll 7 = .ok (.invokevirtual 109, 3) := by decide +kernel
theorem dX9_layAll_10 : decode cX9_layAll 10 = .ok (.return_, 1) := by decide +kernel
set_option maxHeartbeats 4000000 in
set_option maxRecDepth 100000 in
theorem c_X9_layAll (w : WT) (l : Launch) (hw : WOK w) {M : Mem} {L : Lng} {out : Mem} (hf : f_X9_layAll M = some out) : Met l yX9_layAll (Cond.code yX9_layAll cX9_layAll 1 none :: BG) ({ frames := 6, cells := 0, slots := 0, locals := 131 } : Room) (PRE w [.ref (wAd w 90)] M L) (QV w out L) 0 0 (wA w) := by
  refine kEnt hw (by decide +kernel) rfl (Nat.le_of_ble_eq_true rfl) ?_
  intro p e s m args below meth c C ls hl hP
  have hS : va_S (wA w) s.heap s.heap [] := va_S.rf
  have hl : lv_has ls 1 [(0, .ref (wAd w 90))] := hl
  unfold f_X9_layAll at hf
  refine lv_aload_n C.1 C.2.1 dX9_layAll_0 rfl (lv_at hl 0 rfl) ?_
  refine lv_iconst (v := 0) C.1 C.2.1 dX9_layAll_1 (by decide) ?_
  refine lv_iconst (v := 0) C.1 C.2.1 dX9_layAll_2 (by decide) ?_
  obtain ⟨r1, hr1, hf⟩ := ob hf
  refine kcv (kV (As := [.int 0, .int 0]) (rest := []) C hl.1 hP hS (c_X9_lay w l C.2.2.2.2.2.2.2.2 (L := L) hr1) (gV q996 q998 qp28 q10 q999) hd_X9_lay (lt_Model h0_Model) (ob_Model h0_Model w L _) rfl ⟨rfl, rfl⟩ ⟨Nat.le_of_ble_eq_true rfl, Nat.le_of_ble_eq_true rfl⟩ rfl rfl (Nat.le_of_ble_eq_true rfl) dX9_layAll_3 ⟨Nat.zero_le _, Nat.zero_le _⟩) hS (fun H locs hP hS => ?_)
  refine lv_aload_n C.1 C.2.1 dX9_layAll_6 rfl (lv_at hl 0 rfl) ?_
  obtain ⟨r2, hr2, hf⟩ := ob hf
  refine kcv (kV (As := []) (rest := []) C hl.1 hP hS (c_X9_layMatches w l C.2.2.2.2.2.2.2.2 (L := L) hr2) (gV q1044 q1046 qp37 q10 q1047) hd_X9_layMatches (lt_Model h0_Model) (ob_Model h0_Model w L _) rfl ⟨rfl, rfl⟩ ⟨Nat.le_of_ble_eq_true rfl, Nat.le_of_ble_eq_true rfl⟩ rfl rfl (Nat.le_of_ble_eq_true rfl) dX9_layAll_7 ⟨Nat.zero_le _, Nat.zero_le _⟩) hS (fun H locs hP hS => ?_)
  cases hf
  exact krv C hP hS dX9_layAll_10
theorem dX9_save_0 : decode cX9_save 0 = .ok (.aload_n 0, 1) := by decide +kernel
theorem dX9_save_1 : decode cX9_save 1 = .ok (.getfield 112, 3) := by decide +kernel
theorem dX9_save_4 : decode cX9_save 4 = .ok (.bipush 8, 2) := by decide +kernel
theorem dX9_save_6 : decode cX9_save 6 = .ok (.if_icmp .ne 46, 3) := by decide +kernel
theorem dX9_save_9 : decode cX9_save 9 = .ok (.sipush 432, 3) := by decide +kernel
theorem dX9_save_12 : decode cX9_save 12 = .ok (.istore_n 1, 1) := by decide +kernel
theorem dX9_save_13 : decode cX9_save 13 = .ok (.iload_n 1, 1) := by decide +kernel
theorem dX9_save_14 : decode cX9_save 14 = .ok (.sipush 3456, 3) := by decide +kernel
theorem dX9_save_17 : decode cX9_save 17 = .ok (.if_icmp .ge 25, 3) := by decide +kernel
theorem dX9_save_20 : decode cX9_save 20 = .ok (.aload_n 0, 1) := by decide +kernel
theorem dX9_save_21 : decode cX9_save 21 = .ok (.getfield 13, 3) := by decide +kernel
theorem dX9_save_24 : decode cX9_save 24 = .ok (.iload_n 1, 1) := by decide +kernel
theorem dX9_save_25 : decode cX9_save 25 = .ok (.sipush 432, 3) := by decide +kernel
theorem dX9_save_28 : decode cX9_save 28 = .ok (.isub, 1) := by decide +kernel
theorem dX9_save_29 : decode cX9_save 29 = .ok (.aload_n 0, 1) := by decide +kernel
theorem dX9_save_30 : decode cX9_save 30 = .ok (.getfield 13, 3) := by decide +kernel
theorem dX9_save_33 : decode cX9_save 33 = .ok (.iload_n 1, 1) := by decide +kernel
theorem dX9_save_34 : decode cX9_save 34 = .ok (.iaload, 1) := by decide +kernel
theorem dX9_save_35 : decode cX9_save 35 = .ok (.iastore, 1) := by decide +kernel
theorem dX9_save_36 : decode cX9_save 36 = .ok (.iinc 1 1, 3) := by decide +kernel
theorem dX9_save_39 : decode cX9_save 39 = .ok (.goto (-26), 3) := by decide +kernel
theorem dX9_save_42 : decode cX9_save 42 = .ok (.aload_n 0, 1) := by decide +kernel
theorem dX9_save_43 : decode cX9_save 43 = .ok (.dup, 1) := by decide +kernel
theorem dX9_save_44 : decode cX9_save 44 = .ok (.getfield 112, 3) := by decide +kernel
theorem dX9_save_47 : decode cX9_save 47 = .ok (.iconst 1, 1) := by decide +kernel
theorem dX9_save_48 : decode cX9_save 48 = .ok (.isub, 1) := by decide +kernel
theorem dX9_save_49 : decode cX9_save 49 = .ok (.putfield 112, 3) := by decide +kernel
theorem dX9_save_52 : decode cX9_save 52 = .ok (.iconst 0, 1) := by decide +kernel
theorem dX9_save_53 : decode cX9_save 53 = .ok (.istore_n 1, 1) := by decide +kernel
theorem dX9_save_54 : decode cX9_save 54 = .ok (.iload_n 1, 1) := by decide +kernel
theorem dX9_save_55 : decode cX9_save 55 = .ok (.sipush 432, 3) := by decide +kernel
theorem dX9_save_58 : decode cX9_save 58 = .ok (.if_icmp .ge 30, 3) := by decide +kernel
theorem dX9_save_61 : decode cX9_save 61 = .ok (.aload_n 0, 1) := by decide +kernel
theorem dX9_save_62 : decode cX9_save 62 = .ok (.getfield 13, 3) := by decide +kernel
theorem dX9_save_65 : decode cX9_save 65 = .ok (.sipush 432, 3) := by decide +kernel
theorem dX9_save_68 : decode cX9_save 68 = .ok (.aload_n 0, 1) := by decide +kernel
theorem dX9_save_69 : decode cX9_save 69 = .ok (.getfield 112, 3) := by decide +kernel
theorem dX9_save_72 : decode cX9_save 72 = .ok (.imul, 1) := by decide +kernel
theorem dX9_save_73 : decode cX9_save 73 = .ok (.iload_n 1, 1) := by decide +kernel
theorem dX9_save_74 : decode cX9_save 74 = .ok (.iadd, 1) := by decide +kernel
theorem dX9_save_75 : decode cX9_save 75 = .ok (.aload_n 0, 1) := by decide +kernel
theorem dX9_save_76 : decode cX9_save 76 = .ok (.getfield 7, 3) := by decide +kernel
theorem dX9_save_79 : decode cX9_save 79 = .ok (.iload_n 1, 1) := by decide +kernel
theorem dX9_save_80 : decode cX9_save 80 = .ok (.iaload, 1) := by decide +kernel
theorem dX9_save_81 : decode cX9_save 81 = .ok (.iastore, 1) := by decide +kernel
theorem dX9_save_82 : decode cX9_save 82 = .ok (.iinc 1 1, 3) := by decide +kernel
theorem dX9_save_85 : decode cX9_save 85 = .ok (.goto (-31), 3) := by decide +kernel
theorem dX9_save_88 : decode cX9_save 88 = .ok (.aload_n 0, 1) := by decide +kernel
theorem dX9_save_89 : decode cX9_save 89 = .ok (.dup, 1) := by decide +kernel
theorem dX9_save_90 : decode cX9_save 90 = .ok (.getfield 112, 3) := by decide +kernel
theorem dX9_save_93 : decode cX9_save 93 = .ok (.iconst 1, 1) := by decide +kernel
theorem dX9_save_94 : decode cX9_save 94 = .ok (.iadd, 1) := by decide +kernel
theorem dX9_save_95 : decode cX9_save 95 = .ok (.putfield 112, 3) := by decide +kernel
theorem dX9_save_98 : decode cX9_save 98 = .ok (.return_, 1) := by decide +kernel
set_option maxHeartbeats 4000000 in
set_option maxRecDepth 100000 in
theorem w_X9_save_l54 {w : WT} {l : Launch} {p : Program} {e : Env} {s : State} {m : MethodId} {args : Array Value} {below : List Frame} {meth : Method} {c : Code} (C : KC w p s m args meth c cX9_save 2 RX9 none) {L : Lng} {Q : State → Prop} (z : Int32 × Mem) (o : (Int32 × Mem) ⊕ (Mem)) (hf : f_X9_save_l54 z = some o) (hA : ∀ z, o = .inl z → AtL w p l e ({ frames := 0, cells := 0, slots := 0, locals := 0 } : Room) s m args below meth c Q 2 54 z.2 L [(0, .ref (wAd w 90)), (1, .int z.1)] []) (hE : ∀ y, o = .inr y → AtL w p l e ({ frames := 0, cells := 0, slots := 0, locals := 0 } : Room) s m args below meth c Q 2 88 y L [(0, .ref (wAd w 90))] []) : AtL w p l e ({ frames := 0, cells := 0, slots := 0, locals := 0 } : Room) s m args below meth c Q 2 54 z.2 L [(0, .ref (wAd w 90)), (1, .int z.1)] [] := by
  intro H locs ls hP hS hl
  unfold f_X9_save_l54 at hf
  refine lv_iload_n C.1 C.2.1 dX9_save_54 rfl (lv_at hl 1 rfl) ?_
  refine lv_sipush (v := 432) C.1 C.2.1 dX9_save_55 (by decide) ?_
  refine lv_icmp_ge (tgt := 88) C.1 C.2.1 dX9_save_58 (by decide) (fun c2 => ?_) (fun c2 => ?_)
  · have hf := (if_pos c2).symm.trans hf
    cases hf
    exact hE _ rfl _ _ _ hP hS (lv_sub hl [0] rfl)
  · have hf := (if_neg c2).symm.trans hf
    refine lv_aload_n C.1 C.2.1 dX9_save_61 rfl (lv_at hl 0 rfl) ?_
    refine k_get (v := .ref (wAd w 92)) C hP (lt_Model h0_Model) (ob_Model h0_Model w L _) rfl iX9 3 (by decide) q866 rfl dX9_save_62 ?_
    refine lv_sipush (v := 432) C.1 C.2.1 dX9_save_65 (by decide) ?_
    refine lv_aload_n C.1 C.2.1 dX9_save_68 rfl (lv_at hl 0 rfl) ?_
    refine k_get (v := .int (z.2 90 2)) C hP (lt_Model h0_Model) (ob_Model h0_Model w L _) rfl iX9 2 (by decide) q865 rfl dX9_save_69 ?_
    refine lv_imul C.1 C.2.1 dX9_save_72 ?_
    refine lv_iload_n C.1 C.2.1 dX9_save_73 rfl (lv_at hl 1 rfl) ?_
    refine lv_iadd C.1 C.2.1 dX9_save_74 ?_
    refine lv_aload_n C.1 C.2.1 dX9_save_75 rfl (lv_at hl 0 rfl) ?_
    refine k_get (v := .ref (wAd w 91)) C hP (lt_Model h0_Model) (ob_Model h0_Model w L _) rfl iX9 1 (by decide) q864 rfl dX9_save_76 ?_
    refine lv_iload_n C.1 C.2.1 dX9_save_79 rfl (lv_at hl 1 rfl) ?_
    obtain ⟨x3, hx3, hf⟩ := ob hf
    refine k_iald C hP (la_Model_z h0_Model) (ar_Model_z h0_Model w L _) hx3 dX9_save_80 ?_
    obtain ⟨M4, hM4, hf⟩ := ob hf
    refine k_iast C hP hS (la_Model_saved h0_Model) (ar_Model_saved h0_Model w L) hM4 dX9_save_81 (fun H locs hP hS => ?_)
    refine lv_iinc (v := (z.1 + 1)) (lv' := [(1, .int (z.1 + 1)), (0, .ref (wAd w 90))]) C.1 C.2.1 dX9_save_82 hl (k := 1) rfl rfl (by decide) rfl (fun ls hl => ?_)
    refine lv_goto (tgt := 54) C.1 C.2.1 dX9_save_85 (by decide) ?_
    cases hf
    exact hA _ rfl _ _ _ hP hS (lv_sub hl [1, 0] rfl)
set_option maxHeartbeats 4000000 in
set_option maxRecDepth 100000 in
theorem w_X9_save_j52 {w : WT} {l : Launch} {p : Program} {e : Env} {s : State} {m : MethodId} {args : Array Value} {below : List Frame} {meth : Method} {c : Code} (C : KC w p s m args meth c cX9_save 2 RX9 none) {M : Mem} {L : Lng} {out : Mem} (hf : f_X9_save_j52 M = some out) : AtL w p l e ({ frames := 0, cells := 0, slots := 0, locals := 0 } : Room) s m args below meth c (MQ below (QV w out L) args s 0 0 (wA w)) 2 52 M L [(0, .ref (wAd w 90))] [] := by
  intro H locs ls hP hS hl
  unfold f_X9_save_j52 at hf
  refine lv_iconst (v := 0) C.1 C.2.1 dX9_save_52 (by decide) ?_
  refine lv_istore_n (lv' := [(1, .int 0), (0, .ref (wAd w 90))]) C.1 C.2.1 dX9_save_53 rfl hl (by decide) rfl (fun ls hl => ?_)
  obtain ⟨o5, ho5, hf⟩ := ob hf
  refine loop_at (w_X9_save_l54 C) FU _ o5 ho5 ?_ _ _ _ hP hS (lv_sub hl [1, 0] rfl)
  intro H locs ls hP hS hl
  refine lv_aload_n C.1 C.2.1 dX9_save_88 rfl (lv_at hl 0 rfl) ?_
  refine lv_dup C.1 C.2.1 dX9_save_89 rfl ?_
  refine k_get (v := .int (o5 90 2)) C hP (lt_Model h0_Model) (ob_Model h0_Model w L _) rfl iX9 2 (by decide) q865 rfl dX9_save_90 ?_
  refine lv_iconst (v := 1) C.1 C.2.1 dX9_save_93 (by decide) ?_
  refine lv_iadd C.1 C.2.1 dX9_save_94 ?_
  obtain ⟨M6, hM6, hf⟩ := ob hf
  refine k_puti C hP hS (lt_Model h0_Model) (fun row => ob_Model h0_Model w L row) rfl iX9 tyX9 tyX9_ok nmX9 2 (by decide) q865 rfl rfl (Nat.le_of_ble_eq_true rfl) rfl hM6 dX9_save_95 (fun H locs hP hS => ?_)
  cases hf
  exact krv C hP hS dX9_save_98
set_option maxHeartbeats 4000000 in
set_option maxRecDepth 100000 in
theorem w_X9_save_l13 {w : WT} {l : Launch} {p : Program} {e : Env} {s : State} {m : MethodId} {args : Array Value} {below : List Frame} {meth : Method} {c : Code} (C : KC w p s m args meth c cX9_save 2 RX9 none) {L : Lng} {Q : State → Prop} (z : Int32 × Mem) (o : (Int32 × Mem) ⊕ (Mem)) (hf : f_X9_save_l13 z = some o) (hA : ∀ z, o = .inl z → AtL w p l e ({ frames := 0, cells := 0, slots := 0, locals := 0 } : Room) s m args below meth c Q 2 13 z.2 L [(0, .ref (wAd w 90)), (1, .int z.1)] []) (hE : ∀ y, o = .inr y → AtL w p l e ({ frames := 0, cells := 0, slots := 0, locals := 0 } : Room) s m args below meth c Q 2 42 y L [(0, .ref (wAd w 90))] []) : AtL w p l e ({ frames := 0, cells := 0, slots := 0, locals := 0 } : Room) s m args below meth c Q 2 13 z.2 L [(0, .ref (wAd w 90)), (1, .int z.1)] [] := by
  intro H locs ls hP hS hl
  unfold f_X9_save_l13 at hf
  refine lv_iload_n C.1 C.2.1 dX9_save_13 rfl (lv_at hl 1 rfl) ?_
  refine lv_sipush (v := 3456) C.1 C.2.1 dX9_save_14 (by decide) ?_
  refine lv_icmp_ge (tgt := 42) C.1 C.2.1 dX9_save_17 (by decide) (fun c7 => ?_) (fun c7 => ?_)
  · have hf := (if_pos c7).symm.trans hf
    cases hf
    exact hE _ rfl _ _ _ hP hS (lv_sub hl [0] rfl)
  · have hf := (if_neg c7).symm.trans hf
    refine lv_aload_n C.1 C.2.1 dX9_save_20 rfl (lv_at hl 0 rfl) ?_
    refine k_get (v := .ref (wAd w 92)) C hP (lt_Model h0_Model) (ob_Model h0_Model w L _) rfl iX9 3 (by decide) q866 rfl dX9_save_21 ?_
    refine lv_iload_n C.1 C.2.1 dX9_save_24 rfl (lv_at hl 1 rfl) ?_
    refine lv_sipush (v := 432) C.1 C.2.1 dX9_save_25 (by decide) ?_
    refine lv_isub C.1 C.2.1 dX9_save_28 ?_
    refine lv_aload_n C.1 C.2.1 dX9_save_29 rfl (lv_at hl 0 rfl) ?_
    refine k_get (v := .ref (wAd w 92)) C hP (lt_Model h0_Model) (ob_Model h0_Model w L _) rfl iX9 3 (by decide) q866 rfl dX9_save_30 ?_
    refine lv_iload_n C.1 C.2.1 dX9_save_33 rfl (lv_at hl 1 rfl) ?_
    obtain ⟨x8, hx8, hf⟩ := ob hf
    refine k_iald C hP (la_Model_saved h0_Model) (ar_Model_saved h0_Model w L _) hx8 dX9_save_34 ?_
    obtain ⟨M9, hM9, hf⟩ := ob hf
    refine k_iast C hP hS (la_Model_saved h0_Model) (ar_Model_saved h0_Model w L) hM9 dX9_save_35 (fun H locs hP hS => ?_)
    refine lv_iinc (v := (z.1 + 1)) (lv' := [(1, .int (z.1 + 1)), (0, .ref (wAd w 90))]) C.1 C.2.1 dX9_save_36 hl (k := 1) rfl rfl (by decide) rfl (fun ls hl => ?_)
    refine lv_goto (tgt := 13) C.1 C.2.1 dX9_save_39 (by decide) ?_
    cases hf
    exact hA _ rfl _ _ _ hP hS (lv_sub hl [1, 0] rfl)
set_option maxHeartbeats 4000000 in
set_option maxRecDepth 100000 in
theorem c_X9_save (w : WT) (l : Launch) (hw : WOK w) {M : Mem} {L : Lng} {out : Mem} (hf : f_X9_save M = some out) : Met l yX9_save (Cond.code yX9_save cX9_save 2 none :: BG) ({ frames := 0, cells := 0, slots := 0, locals := 0 } : Room) (PRE w [.ref (wAd w 90)] M L) (QV w out L) 0 0 (wA w) := by
  refine kEnt hw (by decide +kernel) rfl (Nat.le_of_ble_eq_true rfl) ?_
  intro p e s m args below meth c C ls hl hP
  have hS : va_S (wA w) s.heap s.heap [] := va_S.rf
  have hl : lv_has ls 2 [(0, .ref (wAd w 90))] := hl
  unfold f_X9_save at hf
  refine lv_aload_n C.1 C.2.1 dX9_save_0 rfl (lv_at hl 0 rfl) ?_
  refine k_get (v := .int (M 90 2)) C hP (lt_Model h0_Model) (ob_Model h0_Model w L _) rfl iX9 2 (by decide) q865 rfl dX9_save_1 ?_
  refine lv_bipush (v := 8) C.1 C.2.1 dX9_save_4 (by decide) ?_
  refine lv_icmp_ne (tgt := 52) C.1 C.2.1 dX9_save_6 (by decide) (fun c1 => ?_) (fun c1 => ?_)
  · have hf := (if_neg c1).symm.trans hf
    exact w_X9_save_j52 C hf _ _ _ hP hS hl
  · have hf := (if_pos c1).symm.trans hf
    refine lv_sipush (v := 432) C.1 C.2.1 dX9_save_9 (by decide) ?_
    refine lv_istore_n (lv' := [(1, .int 432), (0, .ref (wAd w 90))]) C.1 C.2.1 dX9_save_12 rfl hl (by decide) rfl (fun ls hl => ?_)
    obtain ⟨o10, ho10, hf⟩ := ob hf
    refine loop_at (w_X9_save_l13 C) FU _ o10 ho10 ?_ _ _ _ hP hS (lv_sub hl [1, 0] rfl)
    intro H locs ls hP hS hl
    refine lv_aload_n C.1 C.2.1 dX9_save_42 rfl (lv_at hl 0 rfl) ?_
    refine lv_dup C.1 C.2.1 dX9_save_43 rfl ?_
    refine k_get (v := .int (o10 90 2)) C hP (lt_Model h0_Model) (ob_Model h0_Model w L _) rfl iX9 2 (by decide) q865 rfl dX9_save_44 ?_
    refine lv_iconst (v := 1) C.1 C.2.1 dX9_save_47 (by decide) ?_
    refine lv_isub C.1 C.2.1 dX9_save_48 ?_
    obtain ⟨M11, hM11, hf⟩ := ob hf
    refine k_puti C hP hS (lt_Model h0_Model) (fun row => ob_Model h0_Model w L row) rfl iX9 tyX9 tyX9_ok nmX9 2 (by decide) q865 rfl rfl (Nat.le_of_ble_eq_true rfl) rfl hM11 dX9_save_49 (fun H locs hP hS => ?_)
    exact w_X9_save_j52 C hf _ _ _ hP hS hl
theorem dX9_undo_0 : decode cX9_undo 0 = .ok (.aload_n 0, 1) := by decide +kernel
theorem dX9_undo_1 : decode cX9_undo 1 = .ok (.aload_n 0, 1) := by decide +kernel
theorem dX9_undo_2 : decode cX9_undo 2 = .ok (.getfield 112, 3) := by decide +kernel
theorem dX9_undo_5 : decode cX9_undo 5 = .ok (.ifCond .le 7, 3) := by decide +kernel
theorem dX9_undo_8 : decode cX9_undo 8 = .ok (.iconst 0, 1) := by decide +kernel
theorem dX9_undo_9 : decode cX9_undo 9 = .ok (.goto 4, 3) := by decide +kernel
theorem dX9_undo_12 : decode cX9_undo 12 = .ok (.iconst 1, 1) := by decide +kernel
theorem dX9_undo_13 : decode cX9_undo 13 = .ok (.putfield 61, 3) := by decide +kernel
theorem dX9_undo_16 : decode cX9_undo 16 = .ok (.aload_n 0, 1) := by decide +kernel
theorem dX9_undo_17 : decode cX9_undo 17 = .ok (.getfield 61, 3) := by decide +kernel
theorem dX9_undo_20 : decode cX9_undo 20 = .ok (.ifCond .le 5, 3) := by decide +kernel
theorem dX9_undo_23 : decode cX9_undo 23 = .ok (.iconst 0, 1) := by decide +kernel
theorem dX9_undo_24 : decode cX9_undo 24 = .ok (.ireturn, 1) := by decide +kernel
theorem dX9_undo_25 : decode cX9_undo 25 = .ok (.aload_n 0, 1) := by decide +kernel
theorem dX9_undo_26 : decode cX9_undo 26 = .ok (.dup, 1) := by decide +kernel
theorem dX9_undo_27 : decode cX9_undo 27 = .ok (.getfield 112, 3) := by decide +kernel
theorem dX9_undo_30 : decode cX9_undo 30 = .ok (.iconst 1, 1) := by decide +kernel
theorem dX9_undo_31 : decode cX9_undo 31 = .ok (.isub, 1) := by decide +kernel
theorem dX9_undo_32 : decode cX9_undo 32 = .ok (.putfield 112, 3) := by decide +kernel
theorem dX9_undo_35 : decode cX9_undo 35 = .ok (.iconst 0, 1) := by decide +kernel
theorem dX9_undo_36 : decode cX9_undo 36 = .ok (.istore_n 1, 1) := by decide +kernel
theorem dX9_undo_37 : decode cX9_undo 37 = .ok (.iload_n 1, 1) := by decide +kernel
theorem dX9_undo_38 : decode cX9_undo 38 = .ok (.sipush 432, 3) := by decide +kernel
theorem dX9_undo_41 : decode cX9_undo 41 = .ok (.if_icmp .ge 30, 3) := by decide +kernel
theorem dX9_undo_44 : decode cX9_undo 44 = .ok (.aload_n 0, 1) := by decide +kernel
theorem dX9_undo_45 : decode cX9_undo 45 = .ok (.getfield 7, 3) := by decide +kernel
theorem dX9_undo_48 : decode cX9_undo 48 = .ok (.iload_n 1, 1) := by decide +kernel
theorem dX9_undo_49 : decode cX9_undo 49 = .ok (.aload_n 0, 1) := by decide +kernel
theorem dX9_undo_50 : decode cX9_undo 50 = .ok (.getfield 13, 3) := by decide +kernel
theorem dX9_undo_53 : decode cX9_undo 53 = .ok (.sipush 432, 3) := by decide +kernel
theorem dX9_undo_56 : decode cX9_undo 56 = .ok (.aload_n 0, 1) := by decide +kernel
theorem dX9_undo_57 : decode cX9_undo 57 = .ok (.getfield 112, 3) := by decide +kernel
theorem dX9_undo_60 : decode cX9_undo 60 = .ok (.imul, 1) := by decide +kernel
theorem dX9_undo_61 : decode cX9_undo 61 = .ok (.iload_n 1, 1) := by decide +kernel
theorem dX9_undo_62 : decode cX9_undo 62 = .ok (.iadd, 1) := by decide +kernel
theorem dX9_undo_63 : decode cX9_undo 63 = .ok (.iaload, 1) := by decide +kernel
theorem dX9_undo_64 : decode cX9_undo 64 = .ok (.iastore, 1) := by decide +kernel
theorem dX9_undo_65 : decode cX9_undo 65 = .ok (.iinc 1 1, 3) := by decide +kernel
theorem dX9_undo_68 : decode cX9_undo 68 = .ok (.goto (-31), 3) := by decide +kernel
theorem dX9_undo_71 : decode cX9_undo 71 = .ok (.aload_n 0, 1) := by decide +kernel
theorem dX9_undo_72 : decode cX9_undo 72 = .ok (.getfield 112, 3) := by decide +kernel
theorem dX9_undo_75 : decode cX9_undo 75 = .ok (.ireturn, 1) := by decide +kernel
set_option maxHeartbeats 4000000 in
set_option maxRecDepth 100000 in
theorem w_X9_undo_l37 {w : WT} {l : Launch} {p : Program} {e : Env} {s : State} {m : MethodId} {args : Array Value} {below : List Frame} {meth : Method} {c : Code} (C : KC w p s m args meth c cX9_undo 2 RX9 (some .int)) {L : Lng} {Q : State → Prop} (z : Int32 × Mem) (o : (Int32 × Mem) ⊕ (Mem)) (hf : f_X9_undo_l37 z = some o) (hA : ∀ z, o = .inl z → AtL w p l e ({ frames := 0, cells := 0, slots := 0, locals := 0 } : Room) s m args below meth c Q 2 37 z.2 L [(0, .ref (wAd w 90)), (1, .int z.1)] []) (hE : ∀ y, o = .inr y → AtL w p l e ({ frames := 0, cells := 0, slots := 0, locals := 0 } : Room) s m args below meth c Q 2 71 y L [(0, .ref (wAd w 90))] []) : AtL w p l e ({ frames := 0, cells := 0, slots := 0, locals := 0 } : Room) s m args below meth c Q 2 37 z.2 L [(0, .ref (wAd w 90)), (1, .int z.1)] [] := by
  intro H locs ls hP hS hl
  unfold f_X9_undo_l37 at hf
  refine lv_iload_n C.1 C.2.1 dX9_undo_37 rfl (lv_at hl 1 rfl) ?_
  refine lv_sipush (v := 432) C.1 C.2.1 dX9_undo_38 (by decide) ?_
  refine lv_icmp_ge (tgt := 71) C.1 C.2.1 dX9_undo_41 (by decide) (fun c5 => ?_) (fun c5 => ?_)
  · have hf := (if_pos c5).symm.trans hf
    cases hf
    exact hE _ rfl _ _ _ hP hS (lv_sub hl [0] rfl)
  · have hf := (if_neg c5).symm.trans hf
    refine lv_aload_n C.1 C.2.1 dX9_undo_44 rfl (lv_at hl 0 rfl) ?_
    refine k_get (v := .ref (wAd w 91)) C hP (lt_Model h0_Model) (ob_Model h0_Model w L _) rfl iX9 1 (by decide) q864 rfl dX9_undo_45 ?_
    refine lv_iload_n C.1 C.2.1 dX9_undo_48 rfl (lv_at hl 1 rfl) ?_
    refine lv_aload_n C.1 C.2.1 dX9_undo_49 rfl (lv_at hl 0 rfl) ?_
    refine k_get (v := .ref (wAd w 92)) C hP (lt_Model h0_Model) (ob_Model h0_Model w L _) rfl iX9 3 (by decide) q866 rfl dX9_undo_50 ?_
    refine lv_sipush (v := 432) C.1 C.2.1 dX9_undo_53 (by decide) ?_
    refine lv_aload_n C.1 C.2.1 dX9_undo_56 rfl (lv_at hl 0 rfl) ?_
    refine k_get (v := .int (z.2 90 2)) C hP (lt_Model h0_Model) (ob_Model h0_Model w L _) rfl iX9 2 (by decide) q865 rfl dX9_undo_57 ?_
    refine lv_imul C.1 C.2.1 dX9_undo_60 ?_
    refine lv_iload_n C.1 C.2.1 dX9_undo_61 rfl (lv_at hl 1 rfl) ?_
    refine lv_iadd C.1 C.2.1 dX9_undo_62 ?_
    obtain ⟨x6, hx6, hf⟩ := ob hf
    refine k_iald C hP (la_Model_saved h0_Model) (ar_Model_saved h0_Model w L _) hx6 dX9_undo_63 ?_
    obtain ⟨M7, hM7, hf⟩ := ob hf
    refine k_iast C hP hS (la_Model_z h0_Model) (ar_Model_z h0_Model w L) hM7 dX9_undo_64 (fun H locs hP hS => ?_)
    refine lv_iinc (v := (z.1 + 1)) (lv' := [(1, .int (z.1 + 1)), (0, .ref (wAd w 90))]) C.1 C.2.1 dX9_undo_65 hl (k := 1) rfl rfl (by decide) rfl (fun ls hl => ?_)
    refine lv_goto (tgt := 37) C.1 C.2.1 dX9_undo_68 (by decide) ?_
    cases hf
    exact hA _ rfl _ _ _ hP hS (lv_sub hl [1, 0] rfl)
set_option maxHeartbeats 4000000 in
set_option maxRecDepth 100000 in
theorem w_X9_undo_j13 {w : WT} {l : Launch} {p : Program} {e : Env} {s : State} {m : MethodId} {args : Array Value} {below : List Frame} {meth : Method} {c : Code} (C : KC w p s m args meth c cX9_undo 2 RX9 (some .int)) {s1 : Int32} {M : Mem} {L : Lng} {out : Int32 × Mem} (hf : f_X9_undo_j13 s1 M = some out) : AtL w p l e ({ frames := 0, cells := 0, slots := 0, locals := 0 } : Room) s m args below meth c (MQ below (QI w out.1 out.2 L) args s 0 0 (wA w)) 2 13 M L [(0, .ref (wAd w 90))] [.int s1, .ref (wAd w 90)] := by
  intro H locs ls hP hS hl
  unfold f_X9_undo_j13 at hf
  obtain ⟨M2, hM2, hf⟩ := ob hf
  refine k_puti C hP hS (lt_Model h0_Model) (fun row => ob_Model h0_Model w L row) rfl iX9 tyX9 tyX9_ok nmX9 0 (by decide) q863 rfl rfl (Nat.le_of_ble_eq_true rfl) rfl hM2 dX9_undo_13 (fun H locs hP hS => ?_)
  refine lv_aload_n C.1 C.2.1 dX9_undo_16 rfl (lv_at hl 0 rfl) ?_
  refine k_get (v := .int (M2 90 0)) C hP (lt_Model h0_Model) (ob_Model h0_Model w L _) rfl iX9 0 (by decide) q863 rfl dX9_undo_17 ?_
  refine lv_if_le (tgt := 25) C.1 C.2.1 dX9_undo_20 (by decide) (fun c3 => ?_) (fun c3 => ?_)
  · have hf := (if_pos c3).symm.trans hf
    refine lv_aload_n C.1 C.2.1 dX9_undo_25 rfl (lv_at hl 0 rfl) ?_
    refine lv_dup C.1 C.2.1 dX9_undo_26 rfl ?_
    refine k_get (v := .int (M2 90 2)) C hP (lt_Model h0_Model) (ob_Model h0_Model w L _) rfl iX9 2 (by decide) q865 rfl dX9_undo_27 ?_
    refine lv_iconst (v := 1) C.1 C.2.1 dX9_undo_30 (by decide) ?_
    refine lv_isub C.1 C.2.1 dX9_undo_31 ?_
    obtain ⟨M4, hM4, hf⟩ := ob hf
    refine k_puti C hP hS (lt_Model h0_Model) (fun row => ob_Model h0_Model w L row) rfl iX9 tyX9 tyX9_ok nmX9 2 (by decide) q865 rfl rfl (Nat.le_of_ble_eq_true rfl) rfl hM4 dX9_undo_32 (fun H locs hP hS => ?_)
    refine lv_iconst (v := 0) C.1 C.2.1 dX9_undo_35 (by decide) ?_
    refine lv_istore_n (lv' := [(1, .int 0), (0, .ref (wAd w 90))]) C.1 C.2.1 dX9_undo_36 rfl hl (by decide) rfl (fun ls hl => ?_)
    obtain ⟨o8, ho8, hf⟩ := ob hf
    refine loop_at (w_X9_undo_l37 C) FU _ o8 ho8 ?_ _ _ _ hP hS (lv_sub hl [1, 0] rfl)
    intro H locs ls hP hS hl
    refine lv_aload_n C.1 C.2.1 dX9_undo_71 rfl (lv_at hl 0 rfl) ?_
    refine k_get (v := .int (o8 90 2)) C hP (lt_Model h0_Model) (ob_Model h0_Model w L _) rfl iX9 2 (by decide) q865 rfl dX9_undo_72 ?_
    cases hf
    exact kri C hP hS dX9_undo_75
  · have hf := (if_neg c3).symm.trans hf
    refine lv_iconst (v := 0) C.1 C.2.1 dX9_undo_23 (by decide) ?_
    cases hf
    exact kri C hP hS dX9_undo_24
set_option maxHeartbeats 4000000 in
set_option maxRecDepth 100000 in
theorem c_X9_undo (w : WT) (l : Launch) (hw : WOK w) {M : Mem} {L : Lng} {out : Int32 × Mem} (hf : f_X9_undo M = some out) : Met l yX9_undo (Cond.code yX9_undo cX9_undo 2 (some .int) :: BG) ({ frames := 0, cells := 0, slots := 0, locals := 0 } : Room) (PRE w [.ref (wAd w 90)] M L) (QI w out.1 out.2 L) 0 0 (wA w) := by
  refine kEnt hw (by decide +kernel) rfl (Nat.le_of_ble_eq_true rfl) ?_
  intro p e s m args below meth c C ls hl hP
  have hS : va_S (wA w) s.heap s.heap [] := va_S.rf
  have hl : lv_has ls 2 [(0, .ref (wAd w 90))] := hl
  unfold f_X9_undo at hf
  refine lv_aload_n C.1 C.2.1 dX9_undo_0 rfl (lv_at hl 0 rfl) ?_
  refine lv_aload_n C.1 C.2.1 dX9_undo_1 rfl (lv_at hl 0 rfl) ?_
  refine k_get (v := .int (M 90 2)) C hP (lt_Model h0_Model) (ob_Model h0_Model w L _) rfl iX9 2 (by decide) q865 rfl dX9_undo_2 ?_
  refine lv_if_le (tgt := 12) C.1 C.2.1 dX9_undo_5 (by decide) (fun c1 => ?_) (fun c1 => ?_)
  · have hf := (if_pos c1).symm.trans hf
    refine lv_iconst (v := 1) C.1 C.2.1 dX9_undo_12 (by decide) ?_
    exact w_X9_undo_j13 C hf _ _ _ hP hS hl
  · have hf := (if_neg c1).symm.trans hf
    refine lv_iconst (v := 0) C.1 C.2.1 dX9_undo_8 (by decide) ?_
    refine lv_goto (tgt := 13) C.1 C.2.1 dX9_undo_9 (by decide) ?_
    exact w_X9_undo_j13 C hf _ _ _ hP hS hl
theorem dX9_isSetting_0 : decode cX9_isSetting 0 = .ok (.iload_n 0, 1) := by decide +kernel
theorem dX9_isSetting_1 : decode cX9_isSetting 1 = .ok (.iconst 0, 1) := by decide +kernel
theorem dX9_isSetting_2 : decode cX9_isSetting 2 = .ok (.bipush 9, 2) := by decide +kernel
theorem dX9_isSetting_4 : decode cX9_isSetting 4 = .ok (.invokestatic 65, 3) := by decide +kernel
theorem dX9_isSetting_7 : decode cX9_isSetting 7 = .ok (.ireturn, 1) := by decide +kernel
set_option maxHeartbeats 4000000 in
set_option maxRecDepth 100000 in
theorem c_X9_isSetting (w : WT) (l : Launch) (hw : WOK w) {a0 : Int32} {M : Mem} {L : Lng} {out : Int32} (hf : f_X9_isSetting a0 M = some out) : Met l yX9_isSetting (Cond.code yX9_isSetting cX9_isSetting 1 (some .boolean) :: BG) ({ frames := 1, cells := 0, slots := 0, locals := 22 } : Room) (PRE w [.int a0] M L) (QI w out M L) 0 0 (wA w) := by
  refine kEnt hw (by decide +kernel) rfl (Nat.le_of_ble_eq_true rfl) ?_
  intro p e s m args below meth c C ls hl hP
  have hS : va_S (wA w) s.heap s.heap [] := va_S.rf
  have hl : lv_has ls 1 [(0, .int a0)] := hl
  unfold f_X9_isSetting at hf
  refine lv_iload_n C.1 C.2.1 dX9_isSetting_0 rfl (lv_at hl 0 rfl) ?_
  refine lv_iconst (v := 0) C.1 C.2.1 dX9_isSetting_1 (by decide) ?_
  refine lv_bipush (v := 9) C.1 C.2.1 dX9_isSetting_2 (by decide) ?_
  obtain ⟨r1, hr1, hf⟩ := ob hf
  refine kci (kS (As := [.int a0, .int 0, .int 9]) (rest := []) C hl.1 hP hS (c_X9_within w l C.2.2.2.2.2.2.2.2 (L := L) hr1) (gS q963 q964 q10 q965) hd_X9_within ⟨rfl, rfl⟩ ⟨Nat.le_of_ble_eq_true rfl, Nat.le_of_ble_eq_true rfl⟩ rfl rfl (Nat.le_of_ble_eq_true rfl) dX9_isSetting_4 ⟨Nat.zero_le _, Nat.zero_le _⟩) hS (fun H locs hP hS => ?_)
  obtain ⟨x2, hx2, hf⟩ := ob hf
  cases hf
  exact krz C hP hS hx2 dX9_isSetting_7
theorem dX9_isValue_0 : decode cX9_isValue 0 = .ok (.iload_n 0, 1) := by decide +kernel
theorem dX9_isValue_1 : decode cX9_isValue 1 = .ok (.tableswitch 100 0 8 #[51, 51, 60, 68, 76, 84, 92, 68, 92], 51) := by decide +kernel
theorem dX9_isValue_52 : decode cX9_isValue 52 = .ok (.iload_n 1, 1) := by decide +kernel
theorem dX9_isValue_53 : decode cX9_isValue 53 = .ok (.iconst 0, 1) := by decide +kernel
theorem dX9_isValue_54 : decode cX9_isValue 54 = .ok (.sipush 140, 3) := by decide +kernel
theorem dX9_isValue_57 : decode cX9_isValue 57 = .ok (.invokestatic 65, 3) := by decide +kernel
theorem dX9_isValue_60 : decode cX9_isValue 60 = .ok (.ireturn, 1) := by decide +kernel
theorem dX9_isValue_61 : decode cX9_isValue 61 = .ok (.iload_n 1, 1) := by decide +kernel
theorem dX9_isValue_62 : decode cX9_isValue 62 = .ok (.iconst 0, 1) := by decide +kernel
theorem dX9_isValue_63 : decode cX9_isValue 63 = .ok (.bipush 59, 2) := by decide +kernel
theorem dX9_isValue_65 : decode cX9_isValue 65 = .ok (.invokestatic 65, 3) := by decide +kernel
theorem dX9_isValue_68 : decode cX9_isValue 68 = .ok (.ireturn, 1) := by decide +kernel
theorem dX9_isValue_69 : decode cX9_isValue 69 = .ok (.iload_n 1, 1) := by decide +kernel
theorem dX9_isValue_70 : decode cX9_isValue 70 = .ok (.iconst 0, 1) := by decide +kernel
theorem dX9_isValue_71 : decode cX9_isValue 71 = .ok (.bipush 60, 2) := by decide +kernel
theorem dX9_isValue_73 : decode cX9_isValue 73 = .ok (.invokestatic 65, 3) := by decide +kernel
theorem dX9_isValue_76 : decode cX9_isValue 76 = .ok (.ireturn, 1) := by decide +kernel
theorem dX9_isValue_77 : decode cX9_isValue 77 = .ok (.iload_n 1, 1) := by decide +kernel
theorem dX9_isValue_78 : decode cX9_isValue 78 = .ok (.iconst 1, 1) := by decide +kernel
theorem dX9_isValue_79 : decode cX9_isValue 79 = .ok (.bipush 41, 2) := by decide +kernel
theorem dX9_isValue_81 : decode cX9_isValue 81 = .ok (.invokestatic 65, 3) := by decide +kernel
theorem dX9_isValue_84 : decode cX9_isValue 84 = .ok (.ireturn, 1) := by decide +kernel
theorem dX9_isValue_85 : decode cX9_isValue 85 = .ok (.iload_n 1, 1) := by decide +kernel
theorem dX9_isValue_86 : decode cX9_isValue 86 = .ok (.iconst 0, 1) := by decide +kernel
theorem dX9_isValue_87 : decode cX9_isValue 87 = .ok (.bipush 20, 2) := by decide +kernel
theorem dX9_isValue_89 : decode cX9_isValue 89 = .ok (.invokestatic 65, 3) := by decide +kernel
theorem dX9_isValue_92 : decode cX9_isValue 92 = .ok (.ireturn, 1) := by decide +kernel
theorem dX9_isValue_93 : decode cX9_isValue 93 = .ok (.iload_n 1, 1) := by decide +kernel
theorem dX9_isValue_94 : decode cX9_isValue 94 = .ok (.iconst 1, 1) := by decide +kernel
theorem dX9_isValue_95 : decode cX9_isValue 95 = .ok (.bipush 20, 2) := by decide +kernel
theorem dX9_isValue_97 : decode cX9_isValue 97 = .ok (.invokestatic 65, 3) := by decide +kernel
theorem dX9_isValue_100 : decode cX9_isValue 100 = .ok (.ireturn, 1) := by decide +kernel
theorem dX9_isValue_101 : decode cX9_isValue 101 = .ok (.iload_n 1, 1) := by decide +kernel
theorem dX9_isValue_102 : decode cX9_isValue 102 = .ok (.iconst 1, 1) := by decide +kernel
theorem dX9_isValue_103 : decode cX9_isValue 103 = .ok (.bipush 50, 2) := by decide +kernel
theorem dX9_isValue_105 : decode cX9_isValue 105 = .ok (.invokestatic 65, 3) := by decide +kernel
theorem dX9_isValue_108 : decode cX9_isValue 108 = .ok (.ireturn, 1) := by decide +kernel
set_option maxHeartbeats 4000000 in
set_option maxRecDepth 100000 in
theorem c_X9_isValue (w : WT) (l : Launch) (hw : WOK w) {a0 : Int32} {a1 : Int32} {M : Mem} {L : Lng} {out : Int32} (hf : f_X9_isValue a0 a1 M = some out) : Met l yX9_isValue (Cond.code yX9_isValue cX9_isValue 2 (some .boolean) :: BG) ({ frames := 1, cells := 0, slots := 0, locals := 22 } : Room) (PRE w [.int a0, .int a1] M L) (QI w out M L) 0 0 (wA w) := by
  refine kEnt hw (by decide +kernel) rfl (Nat.le_of_ble_eq_true rfl) ?_
  intro p e s m args below meth c C ls hl hP
  have hS : va_S (wA w) s.heap s.heap [] := va_S.rf
  have hl : lv_has ls 2 [(0, .int a0), (1, .int a1)] := hl
  unfold f_X9_isValue at hf
  refine lv_iload_n C.1 C.2.1 dX9_isValue_0 rfl (lv_at hl 0 rfl) ?_
  by_cases c1 : a0 = 0
  · have hf := (if_pos c1).symm.trans hf
    refine lv_tableIn (off := 51) (tgt := 52) C.1 C.2.1 dX9_isValue_1 (by rw [c1]; decide) (by rw [c1]; decide) (by rw [c1]; rfl) (by decide) ?_
    refine lv_iload_n C.1 C.2.1 dX9_isValue_52 rfl (lv_at hl 1 rfl) ?_
    refine lv_iconst (v := 0) C.1 C.2.1 dX9_isValue_53 (by decide) ?_
    refine lv_sipush (v := 140) C.1 C.2.1 dX9_isValue_54 (by decide) ?_
    obtain ⟨r2, hr2, hf⟩ := ob hf
    refine kci (kS (As := [.int a1, .int 0, .int 140]) (rest := []) C hl.1 hP hS (c_X9_within w l C.2.2.2.2.2.2.2.2 (L := L) hr2) (gS q963 q964 q10 q965) hd_X9_within ⟨rfl, rfl⟩ ⟨Nat.le_of_ble_eq_true rfl, Nat.le_of_ble_eq_true rfl⟩ rfl rfl (Nat.le_of_ble_eq_true rfl) dX9_isValue_57 ⟨Nat.zero_le _, Nat.zero_le _⟩) hS (fun H locs hP hS => ?_)
    obtain ⟨x3, hx3, hf⟩ := ob hf
    cases hf
    exact krz C hP hS hx3 dX9_isValue_60
  · have hf := (if_neg c1).symm.trans hf
    by_cases c4 : a0 = 1
    · have hf := (if_pos c4).symm.trans hf
      refine lv_tableIn (off := 51) (tgt := 52) C.1 C.2.1 dX9_isValue_1 (by rw [c4]; decide) (by rw [c4]; decide) (by rw [c4]; rfl) (by decide) ?_
      refine lv_iload_n C.1 C.2.1 dX9_isValue_52 rfl (lv_at hl 1 rfl) ?_
      refine lv_iconst (v := 0) C.1 C.2.1 dX9_isValue_53 (by decide) ?_
      refine lv_sipush (v := 140) C.1 C.2.1 dX9_isValue_54 (by decide) ?_
      obtain ⟨r5, hr5, hf⟩ := ob hf
      refine kci (kS (As := [.int a1, .int 0, .int 140]) (rest := []) C hl.1 hP hS (c_X9_within w l C.2.2.2.2.2.2.2.2 (L := L) hr5) (gS q963 q964 q10 q965) hd_X9_within ⟨rfl, rfl⟩ ⟨Nat.le_of_ble_eq_true rfl, Nat.le_of_ble_eq_true rfl⟩ rfl rfl (Nat.le_of_ble_eq_true rfl) dX9_isValue_57 ⟨Nat.zero_le _, Nat.zero_le _⟩) hS (fun H locs hP hS => ?_)
      obtain ⟨x6, hx6, hf⟩ := ob hf
      cases hf
      exact krz C hP hS hx6 dX9_isValue_60
    · have hf := (if_neg c4).symm.trans hf
      by_cases c7 : a0 = 2
      · have hf := (if_pos c7).symm.trans hf
        refine lv_tableIn (off := 60) (tgt := 61) C.1 C.2.1 dX9_isValue_1 (by rw [c7]; decide) (by rw [c7]; decide) (by rw [c7]; rfl) (by decide) ?_
        refine lv_iload_n C.1 C.2.1 dX9_isValue_61 rfl (lv_at hl 1 rfl) ?_
        refine lv_iconst (v := 0) C.1 C.2.1 dX9_isValue_62 (by decide) ?_
        refine lv_bipush (v := 59) C.1 C.2.1 dX9_isValue_63 (by decide) ?_
        obtain ⟨r8, hr8, hf⟩ := ob hf
        refine kci (kS (As := [.int a1, .int 0, .int 59]) (rest := []) C hl.1 hP hS (c_X9_within w l C.2.2.2.2.2.2.2.2 (L := L) hr8) (gS q963 q964 q10 q965) hd_X9_within ⟨rfl, rfl⟩ ⟨Nat.le_of_ble_eq_true rfl, Nat.le_of_ble_eq_true rfl⟩ rfl rfl (Nat.le_of_ble_eq_true rfl) dX9_isValue_65 ⟨Nat.zero_le _, Nat.zero_le _⟩) hS (fun H locs hP hS => ?_)
        obtain ⟨x9, hx9, hf⟩ := ob hf
        cases hf
        exact krz C hP hS hx9 dX9_isValue_68
      · have hf := (if_neg c7).symm.trans hf
        by_cases c10 : a0 = 3
        · have hf := (if_pos c10).symm.trans hf
          refine lv_tableIn (off := 68) (tgt := 69) C.1 C.2.1 dX9_isValue_1 (by rw [c10]; decide) (by rw [c10]; decide) (by rw [c10]; rfl) (by decide) ?_
          refine lv_iload_n C.1 C.2.1 dX9_isValue_69 rfl (lv_at hl 1 rfl) ?_
          refine lv_iconst (v := 0) C.1 C.2.1 dX9_isValue_70 (by decide) ?_
          refine lv_bipush (v := 60) C.1 C.2.1 dX9_isValue_71 (by decide) ?_
          obtain ⟨r11, hr11, hf⟩ := ob hf
          refine kci (kS (As := [.int a1, .int 0, .int 60]) (rest := []) C hl.1 hP hS (c_X9_within w l C.2.2.2.2.2.2.2.2 (L := L) hr11) (gS q963 q964 q10 q965) hd_X9_within ⟨rfl, rfl⟩ ⟨Nat.le_of_ble_eq_true rfl, Nat.le_of_ble_eq_true rfl⟩ rfl rfl (Nat.le_of_ble_eq_true rfl) dX9_isValue_73 ⟨Nat.zero_le _, Nat.zero_le _⟩) hS (fun H locs hP hS => ?_)
          obtain ⟨x12, hx12, hf⟩ := ob hf
          cases hf
          exact krz C hP hS hx12 dX9_isValue_76
        · have hf := (if_neg c10).symm.trans hf
          by_cases c13 : a0 = 4
          · have hf := (if_pos c13).symm.trans hf
            refine lv_tableIn (off := 76) (tgt := 77) C.1 C.2.1 dX9_isValue_1 (by rw [c13]; decide) (by rw [c13]; decide) (by rw [c13]; rfl) (by decide) ?_
            refine lv_iload_n C.1 C.2.1 dX9_isValue_77 rfl (lv_at hl 1 rfl) ?_
            refine lv_iconst (v := 1) C.1 C.2.1 dX9_isValue_78 (by decide) ?_
            refine lv_bipush (v := 41) C.1 C.2.1 dX9_isValue_79 (by decide) ?_
            obtain ⟨r14, hr14, hf⟩ := ob hf
            refine kci (kS (As := [.int a1, .int 1, .int 41]) (rest := []) C hl.1 hP hS (c_X9_within w l C.2.2.2.2.2.2.2.2 (L := L) hr14) (gS q963 q964 q10 q965) hd_X9_within ⟨rfl, rfl⟩ ⟨Nat.le_of_ble_eq_true rfl, Nat.le_of_ble_eq_true rfl⟩ rfl rfl (Nat.le_of_ble_eq_true rfl) dX9_isValue_81 ⟨Nat.zero_le _, Nat.zero_le _⟩) hS (fun H locs hP hS => ?_)
            obtain ⟨x15, hx15, hf⟩ := ob hf
            cases hf
            exact krz C hP hS hx15 dX9_isValue_84
          · have hf := (if_neg c13).symm.trans hf
            by_cases c16 : a0 = 5
            · have hf := (if_pos c16).symm.trans hf
              refine lv_tableIn (off := 84) (tgt := 85) C.1 C.2.1 dX9_isValue_1 (by rw [c16]; decide) (by rw [c16]; decide) (by rw [c16]; rfl) (by decide) ?_
              refine lv_iload_n C.1 C.2.1 dX9_isValue_85 rfl (lv_at hl 1 rfl) ?_
              refine lv_iconst (v := 0) C.1 C.2.1 dX9_isValue_86 (by decide) ?_
              refine lv_bipush (v := 20) C.1 C.2.1 dX9_isValue_87 (by decide) ?_
              obtain ⟨r17, hr17, hf⟩ := ob hf
              refine kci (kS (As := [.int a1, .int 0, .int 20]) (rest := []) C hl.1 hP hS (c_X9_within w l C.2.2.2.2.2.2.2.2 (L := L) hr17) (gS q963 q964 q10 q965) hd_X9_within ⟨rfl, rfl⟩ ⟨Nat.le_of_ble_eq_true rfl, Nat.le_of_ble_eq_true rfl⟩ rfl rfl (Nat.le_of_ble_eq_true rfl) dX9_isValue_89 ⟨Nat.zero_le _, Nat.zero_le _⟩) hS (fun H locs hP hS => ?_)
              obtain ⟨x18, hx18, hf⟩ := ob hf
              cases hf
              exact krz C hP hS hx18 dX9_isValue_92
            · have hf := (if_neg c16).symm.trans hf
              by_cases c19 : a0 = 6
              · have hf := (if_pos c19).symm.trans hf
                refine lv_tableIn (off := 92) (tgt := 93) C.1 C.2.1 dX9_isValue_1 (by rw [c19]; decide) (by rw [c19]; decide) (by rw [c19]; rfl) (by decide) ?_
                refine lv_iload_n C.1 C.2.1 dX9_isValue_93 rfl (lv_at hl 1 rfl) ?_
                refine lv_iconst (v := 1) C.1 C.2.1 dX9_isValue_94 (by decide) ?_
                refine lv_bipush (v := 20) C.1 C.2.1 dX9_isValue_95 (by decide) ?_
                obtain ⟨r20, hr20, hf⟩ := ob hf
                refine kci (kS (As := [.int a1, .int 1, .int 20]) (rest := []) C hl.1 hP hS (c_X9_within w l C.2.2.2.2.2.2.2.2 (L := L) hr20) (gS q963 q964 q10 q965) hd_X9_within ⟨rfl, rfl⟩ ⟨Nat.le_of_ble_eq_true rfl, Nat.le_of_ble_eq_true rfl⟩ rfl rfl (Nat.le_of_ble_eq_true rfl) dX9_isValue_97 ⟨Nat.zero_le _, Nat.zero_le _⟩) hS (fun H locs hP hS => ?_)
                obtain ⟨x21, hx21, hf⟩ := ob hf
                cases hf
                exact krz C hP hS hx21 dX9_isValue_100
              · have hf := (if_neg c19).symm.trans hf
                by_cases c22 : a0 = 7
                · have hf := (if_pos c22).symm.trans hf
                  refine lv_tableIn (off := 68) (tgt := 69) C.1 C.2.1 dX9_isValue_1 (by rw [c22]; decide) (by rw [c22]; decide) (by rw [c22]; rfl) (by decide) ?_
                  refine lv_iload_n C.1 C.2.1 dX9_isValue_69 rfl (lv_at hl 1 rfl) ?_
                  refine lv_iconst (v := 0) C.1 C.2.1 dX9_isValue_70 (by decide) ?_
                  refine lv_bipush (v := 60) C.1 C.2.1 dX9_isValue_71 (by decide) ?_
                  obtain ⟨r23, hr23, hf⟩ := ob hf
                  refine kci (kS (As := [.int a1, .int 0, .int 60]) (rest := []) C hl.1 hP hS (c_X9_within w l C.2.2.2.2.2.2.2.2 (L := L) hr23) (gS q963 q964 q10 q965) hd_X9_within ⟨rfl, rfl⟩ ⟨Nat.le_of_ble_eq_true rfl, Nat.le_of_ble_eq_true rfl⟩ rfl rfl (Nat.le_of_ble_eq_true rfl) dX9_isValue_73 ⟨Nat.zero_le _, Nat.zero_le _⟩) hS (fun H locs hP hS => ?_)
                  obtain ⟨x24, hx24, hf⟩ := ob hf
                  cases hf
                  exact krz C hP hS hx24 dX9_isValue_76
                · have hf := (if_neg c22).symm.trans hf
                  by_cases c25 : a0 = 8
                  · have hf := (if_pos c25).symm.trans hf
                    refine lv_tableIn (off := 92) (tgt := 93) C.1 C.2.1 dX9_isValue_1 (by rw [c25]; decide) (by rw [c25]; decide) (by rw [c25]; rfl) (by decide) ?_
                    refine lv_iload_n C.1 C.2.1 dX9_isValue_93 rfl (lv_at hl 1 rfl) ?_
                    refine lv_iconst (v := 1) C.1 C.2.1 dX9_isValue_94 (by decide) ?_
                    refine lv_bipush (v := 20) C.1 C.2.1 dX9_isValue_95 (by decide) ?_
                    obtain ⟨r26, hr26, hf⟩ := ob hf
                    refine kci (kS (As := [.int a1, .int 1, .int 20]) (rest := []) C hl.1 hP hS (c_X9_within w l C.2.2.2.2.2.2.2.2 (L := L) hr26) (gS q963 q964 q10 q965) hd_X9_within ⟨rfl, rfl⟩ ⟨Nat.le_of_ble_eq_true rfl, Nat.le_of_ble_eq_true rfl⟩ rfl rfl (Nat.le_of_ble_eq_true rfl) dX9_isValue_97 ⟨Nat.zero_le _, Nat.zero_le _⟩) hS (fun H locs hP hS => ?_)
                    obtain ⟨x27, hx27, hf⟩ := ob hf
                    cases hf
                    exact krz C hP hS hx27 dX9_isValue_100
                  · have hf := (if_neg c25).symm.trans hf
                    refine lv_tableOut (tgt := 101) C.1 C.2.1 dX9_isValue_1 (by have e0 := ne_ti (n := 0) c1 (by decide); have e1 := ne_ti (n := 1) c4 (by decide); have e2 := ne_ti (n := 2) c7 (by decide); have e3 := ne_ti (n := 3) c10 (by decide); have e4 := ne_ti (n := 4) c13 (by decide); have e5 := ne_ti (n := 5) c16 (by decide); have e6 := ne_ti (n := 6) c19 (by decide); have e7 := ne_ti (n := 7) c22 (by decide); have e8 := ne_ti (n := 8) c25 (by decide); omega) (by decide) ?_
                    refine lv_iload_n C.1 C.2.1 dX9_isValue_101 rfl (lv_at hl 1 rfl) ?_
                    refine lv_iconst (v := 1) C.1 C.2.1 dX9_isValue_102 (by decide) ?_
                    refine lv_bipush (v := 50) C.1 C.2.1 dX9_isValue_103 (by decide) ?_
                    obtain ⟨r28, hr28, hf⟩ := ob hf
                    refine kci (kS (As := [.int a1, .int 1, .int 50]) (rest := []) C hl.1 hP hS (c_X9_within w l C.2.2.2.2.2.2.2.2 (L := L) hr28) (gS q963 q964 q10 q965) hd_X9_within ⟨rfl, rfl⟩ ⟨Nat.le_of_ble_eq_true rfl, Nat.le_of_ble_eq_true rfl⟩ rfl rfl (Nat.le_of_ble_eq_true rfl) dX9_isValue_105 ⟨Nat.zero_le _, Nat.zero_le _⟩) hS (fun H locs hP hS => ?_)
                    obtain ⟨x29, hx29, hf⟩ := ob hf
                    cases hf
                    exact krz C hP hS hx29 dX9_isValue_108
theorem dX9_set_0 : decode cX9_set 0 = .ok (.aload_n 0, 1) := by decide +kernel
theorem dX9_set_1 : decode cX9_set 1 = .ok (.iload_n 1, 1) := by decide +kernel
theorem dX9_set_2 : decode cX9_set 2 = .ok (.invokestatic 115, 3) := by decide +kernel
theorem dX9_set_5 : decode cX9_set 5 = .ok (.ifCond .ne 7, 3) := by decide +kernel
theorem dX9_set_8 : decode cX9_set 8 = .ok (.iconst 1, 1) := by decide +kernel
theorem dX9_set_9 : decode cX9_set 9 = .ok (.goto 16, 3) := by decide +kernel
theorem dX9_set_12 : decode cX9_set 12 = .ok (.iload_n 1, 1) := by decide +kernel
theorem dX9_set_13 : decode cX9_set 13 = .ok (.iload_n 2, 1) := by decide +kernel
theorem dX9_set_14 : decode cX9_set 14 = .ok (.invokestatic 118, 3) := by decide +kernel
theorem dX9_set_17 : decode cX9_set 17 = .ok (.ifCond .eq 7, 3) := by decide +kernel
theorem dX9_set_20 : decode cX9_set 20 = .ok (.iconst 0, 1) := by decide +kernel
theorem dX9_set_21 : decode cX9_set 21 = .ok (.goto 4, 3) := by decide +kernel
theorem dX9_set_24 : decode cX9_set 24 = .ok (.iconst 2, 1) := by decide +kernel
theorem dX9_set_25 : decode cX9_set 25 = .ok (.putfield 61, 3) := by decide +kernel
theorem dX9_set_28 : decode cX9_set 28 = .ok (.aload_n 0, 1) := by decide +kernel
theorem dX9_set_29 : decode cX9_set 29 = .ok (.getfield 61, 3) := by decide +kernel
theorem dX9_set_32 : decode cX9_set 32 = .ok (.ifCond .le 5, 3) := by decide +kernel
theorem dX9_set_35 : decode cX9_set 35 = .ok (.iconst 0, 1) := by decide +kernel
theorem dX9_set_36 : decode cX9_set 36 = .ok (.ireturn, 1) := by decide +kernel
theorem dX9_set_37 : decode cX9_set 37 = .ok (.aload_n 0, 1) := by decide +kernel
theorem dX9_set_38 : decode cX9_set 38 = .ok (.invokevirtual 122, 3) := by decide +kernel
theorem dX9_set_41 : decode cX9_set 41 = .ok (.aload_n 0, 1) := by decide +kernel
theorem dX9_set_42 : decode cX9_set 42 = .ok (.iload_n 1, 1) := by decide +kernel
theorem dX9_set_43 : decode cX9_set 43 = .ok (.invokevirtual 69, 3) := by decide +kernel
theorem dX9_set_46 : decode cX9_set 46 = .ok (.istore_n 3, 1) := by decide +kernel
theorem dX9_set_47 : decode cX9_set 47 = .ok (.aload_n 0, 1) := by decide +kernel
theorem dX9_set_48 : decode cX9_set 48 = .ok (.getfield 7, 3) := by decide +kernel
theorem dX9_set_51 : decode cX9_set 51 = .ok (.sipush 401, 3) := by decide +kernel
theorem dX9_set_54 : decode cX9_set 54 = .ok (.iload_n 1, 1) := by decide +kernel
theorem dX9_set_55 : decode cX9_set 55 = .ok (.iadd, 1) := by decide +kernel
theorem dX9_set_56 : decode cX9_set 56 = .ok (.iload_n 2, 1) := by decide +kernel
theorem dX9_set_57 : decode cX9_set 57 = .ok (.iastore, 1) := by decide +kernel
theorem dX9_set_58 : decode cX9_set 58 = .ok (.iload_n 3, 1) := by decide +kernel
theorem dX9_set_59 : decode cX9_set 59 = .ok (.ireturn, 1) := by decide +kernel
set_option maxHeartbeats 4000000 in
set_option maxRecDepth 100000 in
theorem w_X9_set_j25 {w : WT} {l : Launch} {p : Program} {e : Env} {s : State} {m : MethodId} {args : Array Value} {below : List Frame} {meth : Method} {c : Code} (C : KC w p s m args meth c cX9_set 4 RX9 (some .int)) {v1 : Int32} {v2 : Int32} {s1 : Int32} {M : Mem} {L : Lng} {out : Int32 × Mem} (hf : f_X9_set_j25 v1 v2 s1 M = some out) : AtL w p l e ({ frames := 2, cells := 0, slots := 0, locals := 43 } : Room) s m args below meth c (MQ below (QI w out.1 out.2 L) args s 0 0 (wA w)) 4 25 M L [(0, .ref (wAd w 90)), (1, .int v1), (2, .int v2)] [.int s1, .ref (wAd w 90)] := by
  intro H locs ls hP hS hl
  unfold f_X9_set_j25 at hf
  obtain ⟨M5, hM5, hf⟩ := ob hf
  refine k_puti C hP hS (lt_Model h0_Model) (fun row => ob_Model h0_Model w L row) rfl iX9 tyX9 tyX9_ok nmX9 0 (by decide) q863 rfl rfl (Nat.le_of_ble_eq_true rfl) rfl hM5 dX9_set_25 (fun H locs hP hS => ?_)
  refine lv_aload_n C.1 C.2.1 dX9_set_28 rfl (lv_at hl 0 rfl) ?_
  refine k_get (v := .int (M5 90 0)) C hP (lt_Model h0_Model) (ob_Model h0_Model w L _) rfl iX9 0 (by decide) q863 rfl dX9_set_29 ?_
  refine lv_if_le (tgt := 37) C.1 C.2.1 dX9_set_32 (by decide) (fun c6 => ?_) (fun c6 => ?_)
  · have hf := (if_pos c6).symm.trans hf
    refine lv_aload_n C.1 C.2.1 dX9_set_37 rfl (lv_at hl 0 rfl) ?_
    obtain ⟨r7, hr7, hf⟩ := ob hf
    refine kcv (kV (As := []) (rest := []) C hl.1 hP hS (c_X9_save w l C.2.2.2.2.2.2.2.2 (L := L) hr7) (gV q969 q971 qp24 q10 q972) hd_X9_save (lt_Model h0_Model) (ob_Model h0_Model w L _) rfl ⟨rfl, rfl⟩ ⟨Nat.le_of_ble_eq_true rfl, Nat.le_of_ble_eq_true rfl⟩ rfl rfl (Nat.le_of_ble_eq_true rfl) dX9_set_38 ⟨Nat.zero_le _, Nat.zero_le _⟩) hS (fun H locs hP hS => ?_)
    refine lv_aload_n C.1 C.2.1 dX9_set_41 rfl (lv_at hl 0 rfl) ?_
    refine lv_iload_n C.1 C.2.1 dX9_set_42 rfl (lv_at hl 1 rfl) ?_
    obtain ⟨r8, hr8, hf⟩ := ob hf
    refine kci (kV (As := [.int v1]) (rest := []) C hl.1 hP hS (c_X9_of w l C.2.2.2.2.2.2.2.2 (L := L) hr8) (gV q973 q975 qp25 q10 q976) hd_X9_of (lt_Model h0_Model) (ob_Model h0_Model w L _) rfl ⟨rfl, rfl⟩ ⟨Nat.le_of_ble_eq_true rfl, Nat.le_of_ble_eq_true rfl⟩ rfl rfl (Nat.le_of_ble_eq_true rfl) dX9_set_43 ⟨Nat.zero_le _, Nat.zero_le _⟩) hS (fun H locs hP hS => ?_)
    refine lv_istore_n (lv' := [(3, .int r8), (0, .ref (wAd w 90)), (1, .int v1), (2, .int v2)]) C.1 C.2.1 dX9_set_46 rfl hl (by decide) rfl (fun ls hl => ?_)
    refine lv_aload_n C.1 C.2.1 dX9_set_47 rfl (lv_at hl 1 rfl) ?_
    refine k_get (v := .ref (wAd w 91)) C hP (lt_Model h0_Model) (ob_Model h0_Model w L _) rfl iX9 1 (by decide) q864 rfl dX9_set_48 ?_
    refine lv_sipush (v := 401) C.1 C.2.1 dX9_set_51 (by decide) ?_
    refine lv_iload_n C.1 C.2.1 dX9_set_54 rfl (lv_at hl 2 rfl) ?_
    refine lv_iadd C.1 C.2.1 dX9_set_55 ?_
    refine lv_iload_n C.1 C.2.1 dX9_set_56 rfl (lv_at hl 3 rfl) ?_
    obtain ⟨M9, hM9, hf⟩ := ob hf
    refine k_iast C hP hS (la_Model_z h0_Model) (ar_Model_z h0_Model w L) hM9 dX9_set_57 (fun H locs hP hS => ?_)
    refine lv_iload_n C.1 C.2.1 dX9_set_58 rfl (lv_at hl 0 rfl) ?_
    cases hf
    exact kri C hP hS dX9_set_59
  · have hf := (if_neg c6).symm.trans hf
    refine lv_iconst (v := 0) C.1 C.2.1 dX9_set_35 (by decide) ?_
    cases hf
    exact kri C hP hS dX9_set_36
set_option maxHeartbeats 4000000 in
set_option maxRecDepth 100000 in
theorem c_X9_set (w : WT) (l : Launch) (hw : WOK w) {a1 : Int32} {a2 : Int32} {M : Mem} {L : Lng} {out : Int32 × Mem} (hf : f_X9_set a1 a2 M = some out) : Met l yX9_set (Cond.code yX9_set cX9_set 4 (some .int) :: BG) ({ frames := 2, cells := 0, slots := 0, locals := 43 } : Room) (PRE w [.ref (wAd w 90), .int a1, .int a2] M L) (QI w out.1 out.2 L) 0 0 (wA w) := by
  refine kEnt hw (by decide +kernel) rfl (Nat.le_of_ble_eq_true rfl) ?_
  intro p e s m args below meth c C ls hl hP
  have hS : va_S (wA w) s.heap s.heap [] := va_S.rf
  have hl : lv_has ls 4 [(0, .ref (wAd w 90)), (1, .int a1), (2, .int a2)] := hl
  unfold f_X9_set at hf
  refine lv_aload_n C.1 C.2.1 dX9_set_0 rfl (lv_at hl 0 rfl) ?_
  refine lv_iload_n C.1 C.2.1 dX9_set_1 rfl (lv_at hl 1 rfl) ?_
  obtain ⟨r1, hr1, hf⟩ := ob hf
  refine kci (kS (As := [.int a1]) (rest := [.ref (wAd w 90)]) C hl.1 hP hS (c_X9_isSetting w l C.2.2.2.2.2.2.2.2 (L := L) hr1) (gS q960 q961 q10 q962) hd_X9_isSetting ⟨rfl, rfl⟩ ⟨Nat.le_of_ble_eq_true rfl, Nat.le_of_ble_eq_true rfl⟩ rfl rfl (Nat.le_of_ble_eq_true rfl) dX9_set_2 ⟨Nat.zero_le _, Nat.zero_le _⟩) hS (fun H locs hP hS => ?_)
  refine lv_if_ne (tgt := 12) C.1 C.2.1 dX9_set_5 (by decide) (fun c2 => ?_) (fun c2 => ?_)
  · have hf := (if_neg c2).symm.trans hf
    refine lv_iload_n C.1 C.2.1 dX9_set_12 rfl (lv_at hl 1 rfl) ?_
    refine lv_iload_n C.1 C.2.1 dX9_set_13 rfl (lv_at hl 2 rfl) ?_
    obtain ⟨r3, hr3, hf⟩ := ob hf
    refine kci (kS (As := [.int a1, .int a2]) (rest := [.ref (wAd w 90)]) C hl.1 hP hS (c_X9_isValue w l C.2.2.2.2.2.2.2.2 (L := L) hr3) (gS q966 q967 q10 q968) hd_X9_isValue ⟨rfl, rfl⟩ ⟨Nat.le_of_ble_eq_true rfl, Nat.le_of_ble_eq_true rfl⟩ rfl rfl (Nat.le_of_ble_eq_true rfl) dX9_set_14 ⟨Nat.zero_le _, Nat.zero_le _⟩) hS (fun H locs hP hS => ?_)
    refine lv_if_eq (tgt := 24) C.1 C.2.1 dX9_set_17 (by decide) (fun c4 => ?_) (fun c4 => ?_)
    · have hf := (if_pos c4).symm.trans hf
      refine lv_iconst (v := 2) C.1 C.2.1 dX9_set_24 (by decide) ?_
      exact w_X9_set_j25 C hf _ _ _ hP hS hl
    · have hf := (if_neg c4).symm.trans hf
      refine lv_iconst (v := 0) C.1 C.2.1 dX9_set_20 (by decide) ?_
      refine lv_goto (tgt := 25) C.1 C.2.1 dX9_set_21 (by decide) ?_
      exact w_X9_set_j25 C hf _ _ _ hP hS hl
  · have hf := (if_pos c2).symm.trans hf
    refine lv_iconst (v := 1) C.1 C.2.1 dX9_set_8 (by decide) ?_
    refine lv_goto (tgt := 25) C.1 C.2.1 dX9_set_9 (by decide) ?_
    exact w_X9_set_j25 C hf _ _ _ hP hS hl
theorem dX9_isTold_0 : decode cX9_isTold 0 = .ok (.iload_n 0, 1) := by decide +kernel
theorem dX9_isTold_1 : decode cX9_isTold 1 = .ok (.iconst 0, 1) := by decide +kernel
theorem dX9_isTold_2 : decode cX9_isTold 2 = .ok (.sipush 140, 3) := by decide +kernel
theorem dX9_isTold_5 : decode cX9_isTold 5 = .ok (.invokestatic 65, 3) := by decide +kernel
theorem dX9_isTold_8 : decode cX9_isTold 8 = .ok (.ifCond .eq 17, 3) := by decide +kernel
theorem dX9_isTold_11 : decode cX9_isTold 11 = .ok (.iload_n 1, 1) := by decide +kernel
theorem dX9_isTold_12 : decode cX9_isTold 12 = .ok (.iconst 0, 1) := by decide +kernel
theorem dX9_isTold_13 : decode cX9_isTold 13 = .ok (.bipush 40, 2) := by decide +kernel
theorem dX9_isTold_15 : decode cX9_isTold 15 = .ok (.invokestatic 65, 3) := by decide +kernel
theorem dX9_isTold_18 : decode cX9_isTold 18 = .ok (.ifCond .eq 7, 3) := by decide +kernel
theorem dX9_isTold_21 : decode cX9_isTold 21 = .ok (.iconst 1, 1) := by decide +kernel
theorem dX9_isTold_22 : decode cX9_isTold 22 = .ok (.goto 4, 3) := by decide +kernel
theorem dX9_isTold_25 : decode cX9_isTold 25 = .ok (.iconst 0, 1) := by decide +kernel
theorem dX9_isTold_26 : decode cX9_isTold 26 = .ok (.ireturn, 1) := by decide +kernel
set_option maxHeartbeats 4000000 in
set_option maxRecDepth 100000 in
theorem c_X9_isTold (w : WT) (l : Launch) (hw : WOK w) {a0 : Int32} {a1 : Int32} {M : Mem} {L : Lng} {out : Int32} (hf : f_X9_isTold a0 a1 M = some out) : Met l yX9_isTold (Cond.code yX9_isTold cX9_isTold 2 (some .boolean) :: BG) ({ frames := 1, cells := 0, slots := 0, locals := 22 } : Room) (PRE w [.int a0, .int a1] M L) (QI w out M L) 0 0 (wA w) := by
  refine kEnt hw (by decide +kernel) rfl (Nat.le_of_ble_eq_true rfl) ?_
  intro p e s m args below meth c C ls hl hP
  have hS : va_S (wA w) s.heap s.heap [] := va_S.rf
  have hl : lv_has ls 2 [(0, .int a0), (1, .int a1)] := hl
  unfold f_X9_isTold at hf
  refine lv_iload_n C.1 C.2.1 dX9_isTold_0 rfl (lv_at hl 0 rfl) ?_
  refine lv_iconst (v := 0) C.1 C.2.1 dX9_isTold_1 (by decide) ?_
  refine lv_sipush (v := 140) C.1 C.2.1 dX9_isTold_2 (by decide) ?_
  obtain ⟨r1, hr1, hf⟩ := ob hf
  refine kci (kS (As := [.int a0, .int 0, .int 140]) (rest := []) C hl.1 hP hS (c_X9_within w l C.2.2.2.2.2.2.2.2 (L := L) hr1) (gS q963 q964 q10 q965) hd_X9_within ⟨rfl, rfl⟩ ⟨Nat.le_of_ble_eq_true rfl, Nat.le_of_ble_eq_true rfl⟩ rfl rfl (Nat.le_of_ble_eq_true rfl) dX9_isTold_5 ⟨Nat.zero_le _, Nat.zero_le _⟩) hS (fun H locs hP hS => ?_)
  refine lv_if_eq (tgt := 25) C.1 C.2.1 dX9_isTold_8 (by decide) (fun c2 => ?_) (fun c2 => ?_)
  · have hf := (if_pos c2).symm.trans hf
    refine lv_iconst (v := 0) C.1 C.2.1 dX9_isTold_25 (by decide) ?_
    cases hf
    exact krz C hP hS bz0 dX9_isTold_26
  · have hf := (if_neg c2).symm.trans hf
    refine lv_iload_n C.1 C.2.1 dX9_isTold_11 rfl (lv_at hl 1 rfl) ?_
    refine lv_iconst (v := 0) C.1 C.2.1 dX9_isTold_12 (by decide) ?_
    refine lv_bipush (v := 40) C.1 C.2.1 dX9_isTold_13 (by decide) ?_
    obtain ⟨r3, hr3, hf⟩ := ob hf
    refine kci (kS (As := [.int a1, .int 0, .int 40]) (rest := []) C hl.1 hP hS (c_X9_within w l C.2.2.2.2.2.2.2.2 (L := L) hr3) (gS q963 q964 q10 q965) hd_X9_within ⟨rfl, rfl⟩ ⟨Nat.le_of_ble_eq_true rfl, Nat.le_of_ble_eq_true rfl⟩ rfl rfl (Nat.le_of_ble_eq_true rfl) dX9_isTold_15 ⟨Nat.zero_le _, Nat.zero_le _⟩) hS (fun H locs hP hS => ?_)
    refine lv_if_eq (tgt := 25) C.1 C.2.1 dX9_isTold_18 (by decide) (fun c4 => ?_) (fun c4 => ?_)
    · have hf := (if_pos c4).symm.trans hf
      refine lv_iconst (v := 0) C.1 C.2.1 dX9_isTold_25 (by decide) ?_
      cases hf
      exact krz C hP hS bz0 dX9_isTold_26
    · have hf := (if_neg c4).symm.trans hf
      refine lv_iconst (v := 1) C.1 C.2.1 dX9_isTold_21 (by decide) ?_
      refine lv_goto (tgt := 26) C.1 C.2.1 dX9_isTold_22 (by decide) ?_
      cases hf
      exact krz C hP hS bz1 dX9_isTold_26
