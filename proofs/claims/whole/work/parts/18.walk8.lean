theorem dX9_bring_0 : decode cX9_bring 0 = .ok (.iconst 0, 1) := by decide +kernel
theorem dX9_bring_1 : decode cX9_bring 1 = .ok (.istore 4, 2) := by decide +kernel
theorem dX9_bring_3 : decode cX9_bring 3 = .ok (.iload 4, 2) := by decide +kernel
theorem dX9_bring_5 : decode cX9_bring 5 = .ok (.iload_n 3, 1) := by decide +kernel
theorem dX9_bring_6 : decode cX9_bring 6 = .ok (.if_icmp .ge 53, 3) := by decide +kernel
theorem dX9_bring_9 : decode cX9_bring 9 = .ok (.aload_n 0, 1) := by decide +kernel
theorem dX9_bring_10 : decode cX9_bring 10 = .ok (.getfield 7, 3) := by decide +kernel
theorem dX9_bring_13 : decode cX9_bring 13 = .ok (.iconst 1, 1) := by decide +kernel
theorem dX9_bring_14 : decode cX9_bring 14 = .ok (.iconst 2, 1) := by decide +kernel
theorem dX9_bring_15 : decode cX9_bring 15 = .ok (.aload_n 0, 1) := by decide +kernel
theorem dX9_bring_16 : decode cX9_bring 16 = .ok (.getfield 7, 3) := by decide +kernel
theorem dX9_bring_19 : decode cX9_bring 19 = .ok (.iconst 0, 1) := by decide +kernel
theorem dX9_bring_20 : decode cX9_bring 20 = .ok (.iaload, 1) := by decide +kernel
theorem dX9_bring_21 : decode cX9_bring 21 = .ok (.imul, 1) := by decide +kernel
theorem dX9_bring_22 : decode cX9_bring 22 = .ok (.iadd, 1) := by decide +kernel
theorem dX9_bring_23 : decode cX9_bring 23 = .ok (.iload_n 1, 1) := by decide +kernel
theorem dX9_bring_24 : decode cX9_bring 24 = .ok (.iastore, 1) := by decide +kernel
theorem dX9_bring_25 : decode cX9_bring 25 = .ok (.aload_n 0, 1) := by decide +kernel
theorem dX9_bring_26 : decode cX9_bring 26 = .ok (.getfield 7, 3) := by decide +kernel
theorem dX9_bring_29 : decode cX9_bring 29 = .ok (.iconst 1, 1) := by decide +kernel
theorem dX9_bring_30 : decode cX9_bring 30 = .ok (.iconst 2, 1) := by decide +kernel
theorem dX9_bring_31 : decode cX9_bring 31 = .ok (.aload_n 0, 1) := by decide +kernel
theorem dX9_bring_32 : decode cX9_bring 32 = .ok (.getfield 7, 3) := by decide +kernel
theorem dX9_bring_35 : decode cX9_bring 35 = .ok (.iconst 0, 1) := by decide +kernel
theorem dX9_bring_36 : decode cX9_bring 36 = .ok (.iaload, 1) := by decide +kernel
theorem dX9_bring_37 : decode cX9_bring 37 = .ok (.imul, 1) := by decide +kernel
theorem dX9_bring_38 : decode cX9_bring 38 = .ok (.iadd, 1) := by decide +kernel
theorem dX9_bring_39 : decode cX9_bring 39 = .ok (.iconst 1, 1) := by decide +kernel
theorem dX9_bring_40 : decode cX9_bring 40 = .ok (.iadd, 1) := by decide +kernel
theorem dX9_bring_41 : decode cX9_bring 41 = .ok (.iload_n 2, 1) := by decide +kernel
theorem dX9_bring_42 : decode cX9_bring 42 = .ok (.iastore, 1) := by decide +kernel
theorem dX9_bring_43 : decode cX9_bring 43 = .ok (.aload_n 0, 1) := by decide +kernel
theorem dX9_bring_44 : decode cX9_bring 44 = .ok (.getfield 7, 3) := by decide +kernel
theorem dX9_bring_47 : decode cX9_bring 47 = .ok (.iconst 0, 1) := by decide +kernel
theorem dX9_bring_48 : decode cX9_bring 48 = .ok (.dup2, 1) := by decide +kernel
theorem dX9_bring_49 : decode cX9_bring 49 = .ok (.iaload, 1) := by decide +kernel
theorem dX9_bring_50 : decode cX9_bring 50 = .ok (.iconst 1, 1) := by decide +kernel
theorem dX9_bring_51 : decode cX9_bring 51 = .ok (.iadd, 1) := by decide +kernel
theorem dX9_bring_52 : decode cX9_bring 52 = .ok (.iastore, 1) := by decide +kernel
theorem dX9_bring_53 : decode cX9_bring 53 = .ok (.iinc 4 1, 3) := by decide +kernel
theorem dX9_bring_56 : decode cX9_bring 56 = .ok (.goto (-53), 3) := by decide +kernel
theorem dX9_bring_59 : decode cX9_bring 59 = .ok (.return_, 1) := by decide +kernel
set_option maxHeartbeats 4000000 in
set_option maxRecDepth 100000 in
theorem w_X9_bring_l3 {w : WT} {l : Launch} {p : Program} {e : Env} {s : State} {m : MethodId} {args : Array Value} {below : List Frame} {meth : Method} {c : Code} (C : KC w p s m args meth c cX9_bring 5 RX9 none) {v1 : Int32} {v2 : Int32} {v3 : Int32} {L : Lng} {Q : State → Prop} (z : Int32 × Mem) (o : (Int32 × Mem) ⊕ (Mem)) (hf : f_X9_bring_l3 v1 v2 v3 z = some o) (hA : ∀ z, o = .inl z → AtL w p l e ({ frames := 0, cells := 0, slots := 0, locals := 0 } : Room) s m args below meth c Q 5 3 z.2 L [(0, .ref (wAd w 90)), (1, .int v1), (2, .int v2), (3, .int v3), (4, .int z.1)] []) (hE : ∀ y, o = .inr y → AtL w p l e ({ frames := 0, cells := 0, slots := 0, locals := 0 } : Room) s m args below meth c Q 5 59 y L [] []) : AtL w p l e ({ frames := 0, cells := 0, slots := 0, locals := 0 } : Room) s m args below meth c Q 5 3 z.2 L [(0, .ref (wAd w 90)), (1, .int v1), (2, .int v2), (3, .int v3), (4, .int z.1)] [] := by
  intro H locs ls hP hS hl
  unfold f_X9_bring_l3 at hf
  refine lv_iload C.1 C.2.1 dX9_bring_3 (lv_at hl 4 rfl) ?_
  refine lv_iload_n C.1 C.2.1 dX9_bring_5 rfl (lv_at hl 3 rfl) ?_
  refine lv_icmp_ge (tgt := 59) C.1 C.2.1 dX9_bring_6 (by decide) (fun c1 => ?_) (fun c1 => ?_)
  · have hf := (if_pos c1).symm.trans hf
    cases hf
    exact hE _ rfl _ _ _ hP hS (lv_sub hl [] rfl)
  · have hf := (if_neg c1).symm.trans hf
    refine lv_aload_n C.1 C.2.1 dX9_bring_9 rfl (lv_at hl 0 rfl) ?_
    refine k_get (v := .ref (wAd w 91)) C hP (lt_Model h0_Model) (ob_Model h0_Model w L _) rfl iX9 1 (by decide) q864 rfl dX9_bring_10 ?_
    refine lv_iconst (v := 1) C.1 C.2.1 dX9_bring_13 (by decide) ?_
    refine lv_iconst (v := 2) C.1 C.2.1 dX9_bring_14 (by decide) ?_
    refine lv_aload_n C.1 C.2.1 dX9_bring_15 rfl (lv_at hl 0 rfl) ?_
    refine k_get (v := .ref (wAd w 91)) C hP (lt_Model h0_Model) (ob_Model h0_Model w L _) rfl iX9 1 (by decide) q864 rfl dX9_bring_16 ?_
    refine lv_iconst (v := 0) C.1 C.2.1 dX9_bring_19 (by decide) ?_
    obtain ⟨x2, hx2, hf⟩ := ob hf
    refine k_iald C hP (la_Model_z h0_Model) (ar_Model_z h0_Model w L _) hx2 dX9_bring_20 ?_
    refine lv_imul C.1 C.2.1 dX9_bring_21 ?_
    refine lv_iadd C.1 C.2.1 dX9_bring_22 ?_
    refine lv_iload_n C.1 C.2.1 dX9_bring_23 rfl (lv_at hl 1 rfl) ?_
    obtain ⟨M3, hM3, hf⟩ := ob hf
    refine k_iast C hP hS (la_Model_z h0_Model) (ar_Model_z h0_Model w L) hM3 dX9_bring_24 (fun H locs hP hS => ?_)
    refine lv_aload_n C.1 C.2.1 dX9_bring_25 rfl (lv_at hl 0 rfl) ?_
    refine k_get (v := .ref (wAd w 91)) C hP (lt_Model h0_Model) (ob_Model h0_Model w L _) rfl iX9 1 (by decide) q864 rfl dX9_bring_26 ?_
    refine lv_iconst (v := 1) C.1 C.2.1 dX9_bring_29 (by decide) ?_
    refine lv_iconst (v := 2) C.1 C.2.1 dX9_bring_30 (by decide) ?_
    refine lv_aload_n C.1 C.2.1 dX9_bring_31 rfl (lv_at hl 0 rfl) ?_
    refine k_get (v := .ref (wAd w 91)) C hP (lt_Model h0_Model) (ob_Model h0_Model w L _) rfl iX9 1 (by decide) q864 rfl dX9_bring_32 ?_
    refine lv_iconst (v := 0) C.1 C.2.1 dX9_bring_35 (by decide) ?_
    obtain ⟨x4, hx4, hf⟩ := ob hf
    refine k_iald C hP (la_Model_z h0_Model) (ar_Model_z h0_Model w L _) hx4 dX9_bring_36 ?_
    refine lv_imul C.1 C.2.1 dX9_bring_37 ?_
    refine lv_iadd C.1 C.2.1 dX9_bring_38 ?_
    refine lv_iconst (v := 1) C.1 C.2.1 dX9_bring_39 (by decide) ?_
    refine lv_iadd C.1 C.2.1 dX9_bring_40 ?_
    refine lv_iload_n C.1 C.2.1 dX9_bring_41 rfl (lv_at hl 2 rfl) ?_
    obtain ⟨M5, hM5, hf⟩ := ob hf
    refine k_iast C hP hS (la_Model_z h0_Model) (ar_Model_z h0_Model w L) hM5 dX9_bring_42 (fun H locs hP hS => ?_)
    refine lv_aload_n C.1 C.2.1 dX9_bring_43 rfl (lv_at hl 0 rfl) ?_
    refine k_get (v := .ref (wAd w 91)) C hP (lt_Model h0_Model) (ob_Model h0_Model w L _) rfl iX9 1 (by decide) q864 rfl dX9_bring_44 ?_
    refine lv_iconst (v := 0) C.1 C.2.1 dX9_bring_47 (by decide) ?_
    refine lv_dup2_11 C.1 C.2.1 dX9_bring_48 rfl rfl ?_
    obtain ⟨x6, hx6, hf⟩ := ob hf
    refine k_iald C hP (la_Model_z h0_Model) (ar_Model_z h0_Model w L _) hx6 dX9_bring_49 ?_
    refine lv_iconst (v := 1) C.1 C.2.1 dX9_bring_50 (by decide) ?_
    refine lv_iadd C.1 C.2.1 dX9_bring_51 ?_
    obtain ⟨M7, hM7, hf⟩ := ob hf
    refine k_iast C hP hS (la_Model_z h0_Model) (ar_Model_z h0_Model w L) hM7 dX9_bring_52 (fun H locs hP hS => ?_)
    refine lv_iinc (v := (z.1 + 1)) (lv' := [(4, .int (z.1 + 1)), (0, .ref (wAd w 90)), (1, .int v1), (2, .int v2), (3, .int v3)]) C.1 C.2.1 dX9_bring_53 hl (k := 4) rfl rfl (by decide) rfl (fun ls hl => ?_)
    refine lv_goto (tgt := 3) C.1 C.2.1 dX9_bring_56 (by decide) ?_
    cases hf
    exact hA _ rfl _ _ _ hP hS (lv_sub hl [1, 2, 3, 4, 0] rfl)
set_option maxHeartbeats 4000000 in
set_option maxRecDepth 100000 in
theorem c_X9_bring (w : WT) (l : Launch) (hw : WOK w) {a1 : Int32} {a2 : Int32} {a3 : Int32} {M : Mem} {L : Lng} {out : Mem} (hf : f_X9_bring a1 a2 a3 M = some out) : Met l yX9_bring (Cond.code yX9_bring cX9_bring 5 none :: BG) ({ frames := 0, cells := 0, slots := 0, locals := 0 } : Room) (PRE w [.ref (wAd w 90), .int a1, .int a2, .int a3] M L) (QV w out L) 0 0 (wA w) := by
  refine kEnt hw (by decide +kernel) rfl (Nat.le_of_ble_eq_true rfl) ?_
  intro p e s m args below meth c C ls hl hP
  have hS : va_S (wA w) s.heap s.heap [] := va_S.rf
  have hl : lv_has ls 5 [(0, .ref (wAd w 90)), (1, .int a1), (2, .int a2), (3, .int a3)] := hl
  unfold f_X9_bring at hf
  refine lv_iconst (v := 0) C.1 C.2.1 dX9_bring_0 (by decide) ?_
  refine lv_istore (lv' := [(4, .int 0), (0, .ref (wAd w 90)), (1, .int a1), (2, .int a2), (3, .int a3)]) C.1 C.2.1 dX9_bring_1 hl (by decide) rfl (fun ls hl => ?_)
  obtain ⟨o8, ho8, hf⟩ := ob hf
  refine loop_at (w_X9_bring_l3 C) FU _ o8 ho8 ?_ _ _ _ hP hS (lv_sub hl [1, 2, 3, 4, 0] rfl)
  intro H locs ls hP hS hl
  cases hf
  exact krv C hP hS dX9_bring_59
theorem dX9_tell_0 : decode cX9_tell 0 = .ok (.iload_n 1, 1) := by decide +kernel
theorem dX9_tell_1 : decode cX9_tell 1 = .ok (.iload_n 2, 1) := by decide +kernel
theorem dX9_tell_2 : decode cX9_tell 2 = .ok (.invokestatic 125, 3) := by decide +kernel
theorem dX9_tell_5 : decode cX9_tell 5 = .ok (.ifCond .eq 17, 3) := by decide +kernel
theorem dX9_tell_8 : decode cX9_tell 8 = .ok (.iload_n 3, 1) := by decide +kernel
theorem dX9_tell_9 : decode cX9_tell 9 = .ok (.iconst 1, 1) := by decide +kernel
theorem dX9_tell_10 : decode cX9_tell 10 = .ok (.bipush 60, 2) := by decide +kernel
theorem dX9_tell_12 : decode cX9_tell 12 = .ok (.invokestatic 65, 3) := by decide +kernel
theorem dX9_tell_15 : decode cX9_tell 15 = .ok (.ifCond .eq 7, 3) := by decide +kernel
theorem dX9_tell_18 : decode cX9_tell 18 = .ok (.iconst 1, 1) := by decide +kernel
theorem dX9_tell_19 : decode cX9_tell 19 = .ok (.goto 4, 3) := by decide +kernel
theorem dX9_tell_22 : decode cX9_tell 22 = .ok (.iconst 0, 1) := by decide +kernel
theorem dX9_tell_23 : decode cX9_tell 23 = .ok (.istore 4, 2) := by decide +kernel
theorem dX9_tell_25 : decode cX9_tell 25 = .ok (.aload_n 0, 1) := by decide +kernel
theorem dX9_tell_26 : decode cX9_tell 26 = .ok (.iload 4, 2) := by decide +kernel
theorem dX9_tell_28 : decode cX9_tell 28 = .ok (.ifCond .ne 7, 3) := by decide +kernel
theorem dX9_tell_31 : decode cX9_tell 31 = .ok (.iconst 1, 1) := by decide +kernel
theorem dX9_tell_32 : decode cX9_tell 32 = .ok (.goto 22, 3) := by decide +kernel
theorem dX9_tell_35 : decode cX9_tell 35 = .ok (.aload_n 0, 1) := by decide +kernel
theorem dX9_tell_36 : decode cX9_tell 36 = .ok (.getfield 7, 3) := by decide +kernel
theorem dX9_tell_39 : decode cX9_tell 39 = .ok (.iconst 0, 1) := by decide +kernel
theorem dX9_tell_40 : decode cX9_tell 40 = .ok (.iaload, 1) := by decide +kernel
theorem dX9_tell_41 : decode cX9_tell 41 = .ok (.iload_n 3, 1) := by decide +kernel
theorem dX9_tell_42 : decode cX9_tell 42 = .ok (.iadd, 1) := by decide +kernel
theorem dX9_tell_43 : decode cX9_tell 43 = .ok (.sipush 200, 3) := by decide +kernel
theorem dX9_tell_46 : decode cX9_tell 46 = .ok (.if_icmp .le 7, 3) := by decide +kernel
theorem dX9_tell_49 : decode cX9_tell 49 = .ok (.iconst 2, 1) := by decide +kernel
theorem dX9_tell_50 : decode cX9_tell 50 = .ok (.goto 4, 3) := by decide +kernel
theorem dX9_tell_53 : decode cX9_tell 53 = .ok (.iconst 0, 1) := by decide +kernel
theorem dX9_tell_54 : decode cX9_tell 54 = .ok (.putfield 61, 3) := by decide +kernel
theorem dX9_tell_57 : decode cX9_tell 57 = .ok (.aload_n 0, 1) := by decide +kernel
theorem dX9_tell_58 : decode cX9_tell 58 = .ok (.getfield 61, 3) := by decide +kernel
theorem dX9_tell_61 : decode cX9_tell 61 = .ok (.ifCond .le 5, 3) := by decide +kernel
theorem dX9_tell_64 : decode cX9_tell 64 = .ok (.iconst 0, 1) := by decide +kernel
theorem dX9_tell_65 : decode cX9_tell 65 = .ok (.ireturn, 1) := by decide +kernel
theorem dX9_tell_66 : decode cX9_tell 66 = .ok (.aload_n 0, 1) := by decide +kernel
theorem dX9_tell_67 : decode cX9_tell 67 = .ok (.invokevirtual 122, 3) := by decide +kernel
theorem dX9_tell_70 : decode cX9_tell 70 = .ok (.aload_n 0, 1) := by decide +kernel
theorem dX9_tell_71 : decode cX9_tell 71 = .ok (.iload_n 1, 1) := by decide +kernel
theorem dX9_tell_72 : decode cX9_tell 72 = .ok (.iload_n 2, 1) := by decide +kernel
theorem dX9_tell_73 : decode cX9_tell 73 = .ok (.iload_n 3, 1) := by decide +kernel
theorem dX9_tell_74 : decode cX9_tell 74 = .ok (.invokevirtual 128, 3) := by decide +kernel
theorem dX9_tell_77 : decode cX9_tell 77 = .ok (.aload_n 0, 1) := by decide +kernel
theorem dX9_tell_78 : decode cX9_tell 78 = .ok (.getfield 7, 3) := by decide +kernel
theorem dX9_tell_81 : decode cX9_tell 81 = .ok (.iconst 0, 1) := by decide +kernel
theorem dX9_tell_82 : decode cX9_tell 82 = .ok (.iaload, 1) := by decide +kernel
theorem dX9_tell_83 : decode cX9_tell 83 = .ok (.ireturn, 1) := by decide +kernel
set_option maxHeartbeats 4000000 in
set_option maxRecDepth 100000 in
theorem w_X9_tell_j54 {w : WT} {l : Launch} {p : Program} {e : Env} {s : State} {m : MethodId} {args : Array Value} {below : List Frame} {meth : Method} {c : Code} (C : KC w p s m args meth c cX9_tell 5 RX9 (some .int)) {v1 : Int32} {v2 : Int32} {v3 : Int32} {s1 : Int32} {M : Mem} {L : Lng} {out : Int32 × Mem} (hf : f_X9_tell_j54 v1 v2 v3 s1 M = some out) : AtL w p l e ({ frames := 2, cells := 0, slots := 0, locals := 43 } : Room) s m args below meth c (MQ below (QI w out.1 out.2 L) args s 0 0 (wA w)) 5 54 M L [(0, .ref (wAd w 90)), (1, .int v1), (2, .int v2), (3, .int v3)] [.int s1, .ref (wAd w 90)] := by
  intro H locs ls hP hS hl
  unfold f_X9_tell_j54 at hf
  obtain ⟨M6, hM6, hf⟩ := ob hf
  refine k_puti C hP hS (lt_Model h0_Model) (fun row => ob_Model h0_Model w L row) rfl iX9 tyX9 tyX9_ok nmX9 0 (by decide) q863 rfl rfl (Nat.le_of_ble_eq_true rfl) rfl hM6 dX9_tell_54 (fun H locs hP hS => ?_)
  refine lv_aload_n C.1 C.2.1 dX9_tell_57 rfl (lv_at hl 0 rfl) ?_
  refine k_get (v := .int (M6 90 0)) C hP (lt_Model h0_Model) (ob_Model h0_Model w L _) rfl iX9 0 (by decide) q863 rfl dX9_tell_58 ?_
  refine lv_if_le (tgt := 66) C.1 C.2.1 dX9_tell_61 (by decide) (fun c7 => ?_) (fun c7 => ?_)
  · have hf := (if_pos c7).symm.trans hf
    refine lv_aload_n C.1 C.2.1 dX9_tell_66 rfl (lv_at hl 0 rfl) ?_
    obtain ⟨r8, hr8, hf⟩ := ob hf
    refine kcv (kV (As := []) (rest := []) C hl.1 hP hS (c_X9_save w l C.2.2.2.2.2.2.2.2 (L := L) hr8) (gV q969 q971 qp24 q10 q972) hd_X9_save (lt_Model h0_Model) (ob_Model h0_Model w L _) rfl ⟨rfl, rfl⟩ ⟨Nat.le_of_ble_eq_true rfl, Nat.le_of_ble_eq_true rfl⟩ rfl rfl (Nat.le_of_ble_eq_true rfl) dX9_tell_67 ⟨Nat.zero_le _, Nat.zero_le _⟩) hS (fun H locs hP hS => ?_)
    refine lv_aload_n C.1 C.2.1 dX9_tell_70 rfl (lv_at hl 0 rfl) ?_
    refine lv_iload_n C.1 C.2.1 dX9_tell_71 rfl (lv_at hl 1 rfl) ?_
    refine lv_iload_n C.1 C.2.1 dX9_tell_72 rfl (lv_at hl 2 rfl) ?_
    refine lv_iload_n C.1 C.2.1 dX9_tell_73 rfl (lv_at hl 3 rfl) ?_
    obtain ⟨r9, hr9, hf⟩ := ob hf
    refine kcv (kV (As := [.int v1, .int v2, .int v3]) (rest := []) C hl.1 hP hS (c_X9_bring w l C.2.2.2.2.2.2.2.2 (L := L) hr9) (gV q984 q986 qp26 q10 q987) hd_X9_bring (lt_Model h0_Model) (ob_Model h0_Model w L _) rfl ⟨rfl, rfl⟩ ⟨Nat.le_of_ble_eq_true rfl, Nat.le_of_ble_eq_true rfl⟩ rfl rfl (Nat.le_of_ble_eq_true rfl) dX9_tell_74 ⟨Nat.zero_le _, Nat.zero_le _⟩) hS (fun H locs hP hS => ?_)
    refine lv_aload_n C.1 C.2.1 dX9_tell_77 rfl (lv_at hl 0 rfl) ?_
    refine k_get (v := .ref (wAd w 91)) C hP (lt_Model h0_Model) (ob_Model h0_Model w L _) rfl iX9 1 (by decide) q864 rfl dX9_tell_78 ?_
    refine lv_iconst (v := 0) C.1 C.2.1 dX9_tell_81 (by decide) ?_
    obtain ⟨x10, hx10, hf⟩ := ob hf
    refine k_iald C hP (la_Model_z h0_Model) (ar_Model_z h0_Model w L _) hx10 dX9_tell_82 ?_
    cases hf
    exact kri C hP hS dX9_tell_83
  · have hf := (if_neg c7).symm.trans hf
    refine lv_iconst (v := 0) C.1 C.2.1 dX9_tell_64 (by decide) ?_
    cases hf
    exact kri C hP hS dX9_tell_65
set_option maxHeartbeats 4000000 in
set_option maxRecDepth 100000 in
theorem w_X9_tell_j23 {w : WT} {l : Launch} {p : Program} {e : Env} {s : State} {m : MethodId} {args : Array Value} {below : List Frame} {meth : Method} {c : Code} (C : KC w p s m args meth c cX9_tell 5 RX9 (some .int)) {v1 : Int32} {v2 : Int32} {v3 : Int32} {s0 : Int32} {M : Mem} {L : Lng} {out : Int32 × Mem} (hf : f_X9_tell_j23 v1 v2 v3 s0 M = some out) : AtL w p l e ({ frames := 2, cells := 0, slots := 0, locals := 43 } : Room) s m args below meth c (MQ below (QI w out.1 out.2 L) args s 0 0 (wA w)) 5 23 M L [(0, .ref (wAd w 90)), (1, .int v1), (2, .int v2), (3, .int v3)] [.int s0] := by
  intro H locs ls hP hS hl
  unfold f_X9_tell_j23 at hf
  refine lv_istore (lv' := [(4, .int s0), (0, .ref (wAd w 90)), (1, .int v1), (2, .int v2), (3, .int v3)]) C.1 C.2.1 dX9_tell_23 hl (by decide) rfl (fun ls hl => ?_)
  refine lv_aload_n C.1 C.2.1 dX9_tell_25 rfl (lv_at hl 1 rfl) ?_
  refine lv_iload C.1 C.2.1 dX9_tell_26 (lv_at hl 0 rfl) ?_
  refine lv_if_ne (tgt := 35) C.1 C.2.1 dX9_tell_28 (by decide) (fun c3 => ?_) (fun c3 => ?_)
  · have hf := (if_neg c3).symm.trans hf
    refine lv_aload_n C.1 C.2.1 dX9_tell_35 rfl (lv_at hl 1 rfl) ?_
    refine k_get (v := .ref (wAd w 91)) C hP (lt_Model h0_Model) (ob_Model h0_Model w L _) rfl iX9 1 (by decide) q864 rfl dX9_tell_36 ?_
    refine lv_iconst (v := 0) C.1 C.2.1 dX9_tell_39 (by decide) ?_
    obtain ⟨x4, hx4, hf⟩ := ob hf
    refine k_iald C hP (la_Model_z h0_Model) (ar_Model_z h0_Model w L _) hx4 dX9_tell_40 ?_
    refine lv_iload_n C.1 C.2.1 dX9_tell_41 rfl (lv_at hl 4 rfl) ?_
    refine lv_iadd C.1 C.2.1 dX9_tell_42 ?_
    refine lv_sipush (v := 200) C.1 C.2.1 dX9_tell_43 (by decide) ?_
    refine lv_icmp_le (tgt := 53) C.1 C.2.1 dX9_tell_46 (by decide) (fun c5 => ?_) (fun c5 => ?_)
    · have hf := (if_pos c5).symm.trans hf
      refine lv_iconst (v := 0) C.1 C.2.1 dX9_tell_53 (by decide) ?_
      exact w_X9_tell_j54 C hf _ _ _ hP hS (lv_sub hl [1, 2, 3, 4] rfl)
    · have hf := (if_neg c5).symm.trans hf
      refine lv_iconst (v := 2) C.1 C.2.1 dX9_tell_49 (by decide) ?_
      refine lv_goto (tgt := 54) C.1 C.2.1 dX9_tell_50 (by decide) ?_
      exact w_X9_tell_j54 C hf _ _ _ hP hS (lv_sub hl [1, 2, 3, 4] rfl)
  · have hf := (if_pos c3).symm.trans hf
    refine lv_iconst (v := 1) C.1 C.2.1 dX9_tell_31 (by decide) ?_
    refine lv_goto (tgt := 54) C.1 C.2.1 dX9_tell_32 (by decide) ?_
    exact w_X9_tell_j54 C hf _ _ _ hP hS (lv_sub hl [1, 2, 3, 4] rfl)
set_option maxHeartbeats 4000000 in
set_option maxRecDepth 100000 in
theorem w_X9_tell_j22 {w : WT} {l : Launch} {p : Program} {e : Env} {s : State} {m : MethodId} {args : Array Value} {below : List Frame} {meth : Method} {c : Code} (C : KC w p s m args meth c cX9_tell 5 RX9 (some .int)) {v1 : Int32} {v2 : Int32} {v3 : Int32} {M : Mem} {L : Lng} {out : Int32 × Mem} (hf : f_X9_tell_j22 v1 v2 v3 M = some out) : AtL w p l e ({ frames := 2, cells := 0, slots := 0, locals := 43 } : Room) s m args below meth c (MQ below (QI w out.1 out.2 L) args s 0 0 (wA w)) 5 22 M L [(0, .ref (wAd w 90)), (1, .int v1), (2, .int v2), (3, .int v3)] [] := by
  intro H locs ls hP hS hl
  unfold f_X9_tell_j22 at hf
  refine lv_iconst (v := 0) C.1 C.2.1 dX9_tell_22 (by decide) ?_
  exact w_X9_tell_j23 C hf _ _ _ hP hS hl
set_option maxHeartbeats 4000000 in
set_option maxRecDepth 100000 in
theorem c_X9_tell (w : WT) (l : Launch) (hw : WOK w) {a1 : Int32} {a2 : Int32} {a3 : Int32} {M : Mem} {L : Lng} {out : Int32 × Mem} (hf : f_X9_tell a1 a2 a3 M = some out) : Met l yX9_tell (Cond.code yX9_tell cX9_tell 5 (some .int) :: BG) ({ frames := 2, cells := 0, slots := 0, locals := 43 } : Room) (PRE w [.ref (wAd w 90), .int a1, .int a2, .int a3] M L) (QI w out.1 out.2 L) 0 0 (wA w) := by
  refine kEnt hw (by decide +kernel) rfl (Nat.le_of_ble_eq_true rfl) ?_
  intro p e s m args below meth c C ls hl hP
  have hS : va_S (wA w) s.heap s.heap [] := va_S.rf
  have hl : lv_has ls 5 [(0, .ref (wAd w 90)), (1, .int a1), (2, .int a2), (3, .int a3)] := hl
  unfold f_X9_tell at hf
  refine lv_iload_n C.1 C.2.1 dX9_tell_0 rfl (lv_at hl 1 rfl) ?_
  refine lv_iload_n C.1 C.2.1 dX9_tell_1 rfl (lv_at hl 2 rfl) ?_
  obtain ⟨r1, hr1, hf⟩ := ob hf
  refine kci (kS (As := [.int a1, .int a2]) (rest := []) C hl.1 hP hS (c_X9_isTold w l C.2.2.2.2.2.2.2.2 (L := L) hr1) (gS q981 q982 q10 q983) hd_X9_isTold ⟨rfl, rfl⟩ ⟨Nat.le_of_ble_eq_true rfl, Nat.le_of_ble_eq_true rfl⟩ rfl rfl (Nat.le_of_ble_eq_true rfl) dX9_tell_2 ⟨Nat.zero_le _, Nat.zero_le _⟩) hS (fun H locs hP hS => ?_)
  refine lv_if_eq (tgt := 22) C.1 C.2.1 dX9_tell_5 (by decide) (fun c2 => ?_) (fun c2 => ?_)
  · have hf := (if_pos c2).symm.trans hf
    exact w_X9_tell_j22 C hf _ _ _ hP hS hl
  · have hf := (if_neg c2).symm.trans hf
    refine lv_iload_n C.1 C.2.1 dX9_tell_8 rfl (lv_at hl 3 rfl) ?_
    refine lv_iconst (v := 1) C.1 C.2.1 dX9_tell_9 (by decide) ?_
    refine lv_bipush (v := 60) C.1 C.2.1 dX9_tell_10 (by decide) ?_
    obtain ⟨r11, hr11, hf⟩ := ob hf
    refine kci (kS (As := [.int a3, .int 1, .int 60]) (rest := []) C hl.1 hP hS (c_X9_within w l C.2.2.2.2.2.2.2.2 (L := L) hr11) (gS q963 q964 q10 q965) hd_X9_within ⟨rfl, rfl⟩ ⟨Nat.le_of_ble_eq_true rfl, Nat.le_of_ble_eq_true rfl⟩ rfl rfl (Nat.le_of_ble_eq_true rfl) dX9_tell_12 ⟨Nat.zero_le _, Nat.zero_le _⟩) hS (fun H locs hP hS => ?_)
    refine lv_if_eq (tgt := 22) C.1 C.2.1 dX9_tell_15 (by decide) (fun c12 => ?_) (fun c12 => ?_)
    · have hf := (if_pos c12).symm.trans hf
      exact w_X9_tell_j22 C hf _ _ _ hP hS hl
    · have hf := (if_neg c12).symm.trans hf
      refine lv_iconst (v := 1) C.1 C.2.1 dX9_tell_18 (by decide) ?_
      refine lv_goto (tgt := 23) C.1 C.2.1 dX9_tell_19 (by decide) ?_
      exact w_X9_tell_j23 C hf _ _ _ hP hS hl
theorem dX9_correct_0 : decode cX9_correct 0 = .ok (.aload_n 0, 1) := by decide +kernel
theorem dX9_correct_1 : decode cX9_correct 1 = .ok (.aload_n 0, 1) := by decide +kernel
theorem dX9_correct_2 : decode cX9_correct 2 = .ok (.iload_n 1, 1) := by decide +kernel
theorem dX9_correct_3 : decode cX9_correct 3 = .ok (.invokevirtual 132, 3) := by decide +kernel
theorem dX9_correct_6 : decode cX9_correct 6 = .ok (.ifCond .ne 7, 3) := by decide +kernel
theorem dX9_correct_9 : decode cX9_correct 9 = .ok (.iconst 1, 1) := by decide +kernel
theorem dX9_correct_10 : decode cX9_correct 10 = .ok (.goto 16, 3) := by decide +kernel
theorem dX9_correct_13 : decode cX9_correct 13 = .ok (.iload_n 2, 1) := by decide +kernel
theorem dX9_correct_14 : decode cX9_correct 14 = .ok (.iload_n 3, 1) := by decide +kernel
theorem dX9_correct_15 : decode cX9_correct 15 = .ok (.invokestatic 125, 3) := by decide +kernel
theorem dX9_correct_18 : decode cX9_correct 18 = .ok (.ifCond .eq 7, 3) := by decide +kernel
theorem dX9_correct_21 : decode cX9_correct 21 = .ok (.iconst 0, 1) := by decide +kernel
theorem dX9_correct_22 : decode cX9_correct 22 = .ok (.goto 4, 3) := by decide +kernel
theorem dX9_correct_25 : decode cX9_correct 25 = .ok (.iconst 2, 1) := by decide +kernel
theorem dX9_correct_26 : decode cX9_correct 26 = .ok (.putfield 61, 3) := by decide +kernel
theorem dX9_correct_29 : decode cX9_correct 29 = .ok (.aload_n 0, 1) := by decide +kernel
theorem dX9_correct_30 : decode cX9_correct 30 = .ok (.getfield 61, 3) := by decide +kernel
theorem dX9_correct_33 : decode cX9_correct 33 = .ok (.ifCond .le 5, 3) := by decide +kernel
theorem dX9_correct_36 : decode cX9_correct 36 = .ok (.iconst 0, 1) := by decide +kernel
theorem dX9_correct_37 : decode cX9_correct 37 = .ok (.ireturn, 1) := by decide +kernel
theorem dX9_correct_38 : decode cX9_correct 38 = .ok (.aload_n 0, 1) := by decide +kernel
theorem dX9_correct_39 : decode cX9_correct 39 = .ok (.invokevirtual 122, 3) := by decide +kernel
theorem dX9_correct_42 : decode cX9_correct 42 = .ok (.aload_n 0, 1) := by decide +kernel
theorem dX9_correct_43 : decode cX9_correct 43 = .ok (.getfield 7, 3) := by decide +kernel
theorem dX9_correct_46 : decode cX9_correct 46 = .ok (.iconst 1, 1) := by decide +kernel
theorem dX9_correct_47 : decode cX9_correct 47 = .ok (.iconst 2, 1) := by decide +kernel
theorem dX9_correct_48 : decode cX9_correct 48 = .ok (.iload_n 1, 1) := by decide +kernel
theorem dX9_correct_49 : decode cX9_correct 49 = .ok (.imul, 1) := by decide +kernel
theorem dX9_correct_50 : decode cX9_correct 50 = .ok (.iadd, 1) := by decide +kernel
theorem dX9_correct_51 : decode cX9_correct 51 = .ok (.iload_n 2, 1) := by decide +kernel
theorem dX9_correct_52 : decode cX9_correct 52 = .ok (.iastore, 1) := by decide +kernel
theorem dX9_correct_53 : decode cX9_correct 53 = .ok (.aload_n 0, 1) := by decide +kernel
theorem dX9_correct_54 : decode cX9_correct 54 = .ok (.getfield 7, 3) := by decide +kernel
theorem dX9_correct_57 : decode cX9_correct 57 = .ok (.iconst 1, 1) := by decide +kernel
theorem dX9_correct_58 : decode cX9_correct 58 = .ok (.iconst 2, 1) := by decide +kernel
theorem dX9_correct_59 : decode cX9_correct 59 = .ok (.iload_n 1, 1) := by decide +kernel
theorem dX9_correct_60 : decode cX9_correct 60 = .ok (.imul, 1) := by decide +kernel
theorem dX9_correct_61 : decode cX9_correct 61 = .ok (.iadd, 1) := by decide +kernel
theorem dX9_correct_62 : decode cX9_correct 62 = .ok (.iconst 1, 1) := by decide +kernel
theorem dX9_correct_63 : decode cX9_correct 63 = .ok (.iadd, 1) := by decide +kernel
theorem dX9_correct_64 : decode cX9_correct 64 = .ok (.iload_n 3, 1) := by decide +kernel
theorem dX9_correct_65 : decode cX9_correct 65 = .ok (.iastore, 1) := by decide +kernel
theorem dX9_correct_66 : decode cX9_correct 66 = .ok (.aload_n 0, 1) := by decide +kernel
theorem dX9_correct_67 : decode cX9_correct 67 = .ok (.iconst 0, 1) := by decide +kernel
theorem dX9_correct_68 : decode cX9_correct 68 = .ok (.iconst 0, 1) := by decide +kernel
theorem dX9_correct_69 : decode cX9_correct 69 = .ok (.invokevirtual 106, 3) := by decide +kernel
theorem dX9_correct_72 : decode cX9_correct 72 = .ok (.aload_n 0, 1) := by decide +kernel
theorem dX9_correct_73 : decode cX9_correct 73 = .ok (.getfield 83, 3) := by decide +kernel
theorem dX9_correct_76 : decode cX9_correct 76 = .ok (.ireturn, 1) := by decide +kernel
set_option maxHeartbeats 4000000 in
set_option maxRecDepth 100000 in
theorem w_X9_correct_j26 {w : WT} {l : Launch} {p : Program} {e : Env} {s : State} {m : MethodId} {args : Array Value} {below : List Frame} {meth : Method} {c : Code} (C : KC w p s m args meth c cX9_correct 4 RX9 (some .int)) {v1 : Int32} {v2 : Int32} {v3 : Int32} {s1 : Int32} {M : Mem} {L : Lng} {out : Int32 × Mem} (hf : f_X9_correct_j26 v1 v2 v3 s1 M = some out) : AtL w p l e ({ frames := 6, cells := 0, slots := 0, locals := 131 } : Room) s m args below meth c (MQ below (QI w out.1 out.2 L) args s 0 0 (wA w)) 4 26 M L [(0, .ref (wAd w 90)), (1, .int v1), (2, .int v2), (3, .int v3)] [.int s1, .ref (wAd w 90)] := by
  intro H locs ls hP hS hl
  unfold f_X9_correct_j26 at hf
  obtain ⟨M5, hM5, hf⟩ := ob hf
  refine k_puti C hP hS (lt_Model h0_Model) (fun row => ob_Model h0_Model w L row) rfl iX9 tyX9 tyX9_ok nmX9 0 (by decide) q863 rfl rfl (Nat.le_of_ble_eq_true rfl) rfl hM5 dX9_correct_26 (fun H locs hP hS => ?_)
  refine lv_aload_n C.1 C.2.1 dX9_correct_29 rfl (lv_at hl 0 rfl) ?_
  refine k_get (v := .int (M5 90 0)) C hP (lt_Model h0_Model) (ob_Model h0_Model w L _) rfl iX9 0 (by decide) q863 rfl dX9_correct_30 ?_
  refine lv_if_le (tgt := 38) C.1 C.2.1 dX9_correct_33 (by decide) (fun c6 => ?_) (fun c6 => ?_)
  · have hf := (if_pos c6).symm.trans hf
    refine lv_aload_n C.1 C.2.1 dX9_correct_38 rfl (lv_at hl 0 rfl) ?_
    obtain ⟨r7, hr7, hf⟩ := ob hf
    refine kcv (kV (As := []) (rest := []) C hl.1 hP hS (c_X9_save w l C.2.2.2.2.2.2.2.2 (L := L) hr7) (gV q969 q971 qp24 q10 q972) hd_X9_save (lt_Model h0_Model) (ob_Model h0_Model w L _) rfl ⟨rfl, rfl⟩ ⟨Nat.le_of_ble_eq_true rfl, Nat.le_of_ble_eq_true rfl⟩ rfl rfl (Nat.le_of_ble_eq_true rfl) dX9_correct_39 ⟨Nat.zero_le _, Nat.zero_le _⟩) hS (fun H locs hP hS => ?_)
    refine lv_aload_n C.1 C.2.1 dX9_correct_42 rfl (lv_at hl 0 rfl) ?_
    refine k_get (v := .ref (wAd w 91)) C hP (lt_Model h0_Model) (ob_Model h0_Model w L _) rfl iX9 1 (by decide) q864 rfl dX9_correct_43 ?_
    refine lv_iconst (v := 1) C.1 C.2.1 dX9_correct_46 (by decide) ?_
    refine lv_iconst (v := 2) C.1 C.2.1 dX9_correct_47 (by decide) ?_
    refine lv_iload_n C.1 C.2.1 dX9_correct_48 rfl (lv_at hl 1 rfl) ?_
    refine lv_imul C.1 C.2.1 dX9_correct_49 ?_
    refine lv_iadd C.1 C.2.1 dX9_correct_50 ?_
    refine lv_iload_n C.1 C.2.1 dX9_correct_51 rfl (lv_at hl 2 rfl) ?_
    obtain ⟨M8, hM8, hf⟩ := ob hf
    refine k_iast C hP hS (la_Model_z h0_Model) (ar_Model_z h0_Model w L) hM8 dX9_correct_52 (fun H locs hP hS => ?_)
    refine lv_aload_n C.1 C.2.1 dX9_correct_53 rfl (lv_at hl 0 rfl) ?_
    refine k_get (v := .ref (wAd w 91)) C hP (lt_Model h0_Model) (ob_Model h0_Model w L _) rfl iX9 1 (by decide) q864 rfl dX9_correct_54 ?_
    refine lv_iconst (v := 1) C.1 C.2.1 dX9_correct_57 (by decide) ?_
    refine lv_iconst (v := 2) C.1 C.2.1 dX9_correct_58 (by decide) ?_
    refine lv_iload_n C.1 C.2.1 dX9_correct_59 rfl (lv_at hl 1 rfl) ?_
    refine lv_imul C.1 C.2.1 dX9_correct_60 ?_
    refine lv_iadd C.1 C.2.1 dX9_correct_61 ?_
    refine lv_iconst (v := 1) C.1 C.2.1 dX9_correct_62 (by decide) ?_
    refine lv_iadd C.1 C.2.1 dX9_correct_63 ?_
    refine lv_iload_n C.1 C.2.1 dX9_correct_64 rfl (lv_at hl 3 rfl) ?_
    obtain ⟨M9, hM9, hf⟩ := ob hf
    refine k_iast C hP hS (la_Model_z h0_Model) (ar_Model_z h0_Model w L) hM9 dX9_correct_65 (fun H locs hP hS => ?_)
    refine lv_aload_n C.1 C.2.1 dX9_correct_66 rfl (lv_at hl 0 rfl) ?_
    refine lv_iconst (v := 0) C.1 C.2.1 dX9_correct_67 (by decide) ?_
    refine lv_iconst (v := 0) C.1 C.2.1 dX9_correct_68 (by decide) ?_
    obtain ⟨r10, hr10, hf⟩ := ob hf
    refine kcv (kV (As := [.int 0, .int 0]) (rest := []) C hl.1 hP hS (c_X9_lay w l C.2.2.2.2.2.2.2.2 (L := L) hr10) (gV q996 q998 qp28 q10 q999) hd_X9_lay (lt_Model h0_Model) (ob_Model h0_Model w L _) rfl ⟨rfl, rfl⟩ ⟨Nat.le_of_ble_eq_true rfl, Nat.le_of_ble_eq_true rfl⟩ rfl rfl (Nat.le_of_ble_eq_true rfl) dX9_correct_69 ⟨Nat.zero_le _, Nat.zero_le _⟩) hS (fun H locs hP hS => ?_)
    refine lv_aload_n C.1 C.2.1 dX9_correct_72 rfl (lv_at hl 0 rfl) ?_
    refine k_get (v := .int (r10 90 13)) C hP (lt_Model h0_Model) (ob_Model h0_Model w L _) rfl iX9 13 (by decide) q876 rfl dX9_correct_73 ?_
    cases hf
    exact kri C hP hS dX9_correct_76
  · have hf := (if_neg c6).symm.trans hf
    refine lv_iconst (v := 0) C.1 C.2.1 dX9_correct_36 (by decide) ?_
    cases hf
    exact kri C hP hS dX9_correct_37
set_option maxHeartbeats 4000000 in
set_option maxRecDepth 100000 in
theorem c_X9_correct (w : WT) (l : Launch) (hw : WOK w) {a1 : Int32} {a2 : Int32} {a3 : Int32} {M : Mem} {L : Lng} {out : Int32 × Mem} (hf : f_X9_correct a1 a2 a3 M = some out) : Met l yX9_correct (Cond.code yX9_correct cX9_correct 4 (some .int) :: BG) ({ frames := 6, cells := 0, slots := 0, locals := 131 } : Room) (PRE w [.ref (wAd w 90), .int a1, .int a2, .int a3] M L) (QI w out.1 out.2 L) 0 0 (wA w) := by
  refine kEnt hw (by decide +kernel) rfl (Nat.le_of_ble_eq_true rfl) ?_
  intro p e s m args below meth c C ls hl hP
  have hS : va_S (wA w) s.heap s.heap [] := va_S.rf
  have hl : lv_has ls 4 [(0, .ref (wAd w 90)), (1, .int a1), (2, .int a2), (3, .int a3)] := hl
  unfold f_X9_correct at hf
  refine lv_aload_n C.1 C.2.1 dX9_correct_0 rfl (lv_at hl 0 rfl) ?_
  refine lv_aload_n C.1 C.2.1 dX9_correct_1 rfl (lv_at hl 0 rfl) ?_
  refine lv_iload_n C.1 C.2.1 dX9_correct_2 rfl (lv_at hl 1 rfl) ?_
  obtain ⟨r1, hr1, hf⟩ := ob hf
  refine kci (kV (As := [.int a1]) (rest := [.ref (wAd w 90)]) C hl.1 hP hS (c_X9_isMinute w l C.2.2.2.2.2.2.2.2 (L := L) hr1) (gV q992 q994 qp27 q10 q995) hd_X9_isMinute (lt_Model h0_Model) (ob_Model h0_Model w L _) rfl ⟨rfl, rfl⟩ ⟨Nat.le_of_ble_eq_true rfl, Nat.le_of_ble_eq_true rfl⟩ rfl rfl (Nat.le_of_ble_eq_true rfl) dX9_correct_3 ⟨Nat.zero_le _, Nat.zero_le _⟩) hS (fun H locs hP hS => ?_)
  refine lv_if_ne (tgt := 13) C.1 C.2.1 dX9_correct_6 (by decide) (fun c2 => ?_) (fun c2 => ?_)
  · have hf := (if_neg c2).symm.trans hf
    refine lv_iload_n C.1 C.2.1 dX9_correct_13 rfl (lv_at hl 2 rfl) ?_
    refine lv_iload_n C.1 C.2.1 dX9_correct_14 rfl (lv_at hl 3 rfl) ?_
    obtain ⟨r3, hr3, hf⟩ := ob hf
    refine kci (kS (As := [.int a2, .int a3]) (rest := [.ref (wAd w 90)]) C hl.1 hP hS (c_X9_isTold w l C.2.2.2.2.2.2.2.2 (L := L) hr3) (gS q981 q982 q10 q983) hd_X9_isTold ⟨rfl, rfl⟩ ⟨Nat.le_of_ble_eq_true rfl, Nat.le_of_ble_eq_true rfl⟩ rfl rfl (Nat.le_of_ble_eq_true rfl) dX9_correct_15 ⟨Nat.zero_le _, Nat.zero_le _⟩) hS (fun H locs hP hS => ?_)
    refine lv_if_eq (tgt := 25) C.1 C.2.1 dX9_correct_18 (by decide) (fun c4 => ?_) (fun c4 => ?_)
    · have hf := (if_pos c4).symm.trans hf
      refine lv_iconst (v := 2) C.1 C.2.1 dX9_correct_25 (by decide) ?_
      exact w_X9_correct_j26 C hf _ _ _ hP hS hl
    · have hf := (if_neg c4).symm.trans hf
      refine lv_iconst (v := 0) C.1 C.2.1 dX9_correct_21 (by decide) ?_
      refine lv_goto (tgt := 26) C.1 C.2.1 dX9_correct_22 (by decide) ?_
      exact w_X9_correct_j26 C hf _ _ _ hP hS hl
  · have hf := (if_pos c2).symm.trans hf
    refine lv_iconst (v := 1) C.1 C.2.1 dX9_correct_9 (by decide) ?_
    refine lv_goto (tgt := 26) C.1 C.2.1 dX9_correct_10 (by decide) ?_
    exact w_X9_correct_j26 C hf _ _ _ hP hS hl
theorem dX9_forget_0 : decode cX9_forget 0 = .ok (.aload_n 0, 1) := by decide +kernel
theorem dX9_forget_1 : decode cX9_forget 1 = .ok (.iload_n 1, 1) := by decide +kernel
theorem dX9_forget_2 : decode cX9_forget 2 = .ok (.iconst 1, 1) := by decide +kernel
theorem dX9_forget_3 : decode cX9_forget 3 = .ok (.aload_n 0, 1) := by decide +kernel
theorem dX9_forget_4 : decode cX9_forget 4 = .ok (.getfield 7, 3) := by decide +kernel
theorem dX9_forget_7 : decode cX9_forget 7 = .ok (.iconst 0, 1) := by decide +kernel
theorem dX9_forget_8 : decode cX9_forget 8 = .ok (.iaload, 1) := by decide +kernel
theorem dX9_forget_9 : decode cX9_forget 9 = .ok (.invokestatic 65, 3) := by decide +kernel
theorem dX9_forget_12 : decode cX9_forget 12 = .ok (.ifCond .eq 7, 3) := by decide +kernel
theorem dX9_forget_15 : decode cX9_forget 15 = .ok (.iconst 0, 1) := by decide +kernel
theorem dX9_forget_16 : decode cX9_forget 16 = .ok (.goto 4, 3) := by decide +kernel
theorem dX9_forget_19 : decode cX9_forget 19 = .ok (.iconst 1, 1) := by decide +kernel
theorem dX9_forget_20 : decode cX9_forget 20 = .ok (.putfield 61, 3) := by decide +kernel
theorem dX9_forget_23 : decode cX9_forget 23 = .ok (.aload_n 0, 1) := by decide +kernel
theorem dX9_forget_24 : decode cX9_forget 24 = .ok (.getfield 61, 3) := by decide +kernel
theorem dX9_forget_27 : decode cX9_forget 27 = .ok (.ifCond .le 5, 3) := by decide +kernel
theorem dX9_forget_30 : decode cX9_forget 30 = .ok (.iconst 0, 1) := by decide +kernel
theorem dX9_forget_31 : decode cX9_forget 31 = .ok (.ireturn, 1) := by decide +kernel
theorem dX9_forget_32 : decode cX9_forget 32 = .ok (.aload_n 0, 1) := by decide +kernel
theorem dX9_forget_33 : decode cX9_forget 33 = .ok (.invokevirtual 122, 3) := by decide +kernel
theorem dX9_forget_36 : decode cX9_forget 36 = .ok (.aload_n 0, 1) := by decide +kernel
theorem dX9_forget_37 : decode cX9_forget 37 = .ok (.getfield 7, 3) := by decide +kernel
theorem dX9_forget_40 : decode cX9_forget 40 = .ok (.iconst 0, 1) := by decide +kernel
theorem dX9_forget_41 : decode cX9_forget 41 = .ok (.dup2, 1) := by decide +kernel
theorem dX9_forget_42 : decode cX9_forget 42 = .ok (.iaload, 1) := by decide +kernel
theorem dX9_forget_43 : decode cX9_forget 43 = .ok (.iload_n 1, 1) := by decide +kernel
theorem dX9_forget_44 : decode cX9_forget 44 = .ok (.isub, 1) := by decide +kernel
theorem dX9_forget_45 : decode cX9_forget 45 = .ok (.iastore, 1) := by decide +kernel
theorem dX9_forget_46 : decode cX9_forget 46 = .ok (.iconst 0, 1) := by decide +kernel
theorem dX9_forget_47 : decode cX9_forget 47 = .ok (.istore_n 2, 1) := by decide +kernel
theorem dX9_forget_48 : decode cX9_forget 48 = .ok (.iload_n 2, 1) := by decide +kernel
theorem dX9_forget_49 : decode cX9_forget 49 = .ok (.iconst 2, 1) := by decide +kernel
theorem dX9_forget_50 : decode cX9_forget 50 = .ok (.aload_n 0, 1) := by decide +kernel
theorem dX9_forget_51 : decode cX9_forget 51 = .ok (.getfield 7, 3) := by decide +kernel
theorem dX9_forget_54 : decode cX9_forget 54 = .ok (.iconst 0, 1) := by decide +kernel
theorem dX9_forget_55 : decode cX9_forget 55 = .ok (.iaload, 1) := by decide +kernel
theorem dX9_forget_56 : decode cX9_forget 56 = .ok (.imul, 1) := by decide +kernel
theorem dX9_forget_57 : decode cX9_forget 57 = .ok (.if_icmp .ge 29, 3) := by decide +kernel
theorem dX9_forget_60 : decode cX9_forget 60 = .ok (.aload_n 0, 1) := by decide +kernel
theorem dX9_forget_61 : decode cX9_forget 61 = .ok (.getfield 7, 3) := by decide +kernel
theorem dX9_forget_64 : decode cX9_forget 64 = .ok (.iconst 1, 1) := by decide +kernel
theorem dX9_forget_65 : decode cX9_forget 65 = .ok (.iload_n 2, 1) := by decide +kernel
theorem dX9_forget_66 : decode cX9_forget 66 = .ok (.iadd, 1) := by decide +kernel
theorem dX9_forget_67 : decode cX9_forget 67 = .ok (.aload_n 0, 1) := by decide +kernel
theorem dX9_forget_68 : decode cX9_forget 68 = .ok (.getfield 7, 3) := by decide +kernel
theorem dX9_forget_71 : decode cX9_forget 71 = .ok (.iconst 1, 1) := by decide +kernel
theorem dX9_forget_72 : decode cX9_forget 72 = .ok (.iload_n 2, 1) := by decide +kernel
theorem dX9_forget_73 : decode cX9_forget 73 = .ok (.iadd, 1) := by decide +kernel
theorem dX9_forget_74 : decode cX9_forget 74 = .ok (.iconst 2, 1) := by decide +kernel
theorem dX9_forget_75 : decode cX9_forget 75 = .ok (.iload_n 1, 1) := by decide +kernel
theorem dX9_forget_76 : decode cX9_forget 76 = .ok (.imul, 1) := by decide +kernel
theorem dX9_forget_77 : decode cX9_forget 77 = .ok (.iadd, 1) := by decide +kernel
theorem dX9_forget_78 : decode cX9_forget 78 = .ok (.iaload, 1) := by decide +kernel
theorem dX9_forget_79 : decode cX9_forget 79 = .ok (.iastore, 1) := by decide +kernel
theorem dX9_forget_80 : decode cX9_forget 80 = .ok (.iinc 2 1, 3) := by decide +kernel
theorem dX9_forget_83 : decode cX9_forget 83 = .ok (.goto (-35), 3) := by decide +kernel
theorem dX9_forget_86 : decode cX9_forget 86 = .ok (.iconst 0, 1) := by decide +kernel
theorem dX9_forget_87 : decode cX9_forget 87 = .ok (.istore_n 2, 1) := by decide +kernel
theorem dX9_forget_88 : decode cX9_forget 88 = .ok (.iload_n 2, 1) := by decide +kernel
theorem dX9_forget_89 : decode cX9_forget 89 = .ok (.aload_n 0, 1) := by decide +kernel
theorem dX9_forget_90 : decode cX9_forget 90 = .ok (.getfield 7, 3) := by decide +kernel
theorem dX9_forget_93 : decode cX9_forget 93 = .ok (.sipush 411, 3) := by decide +kernel
theorem dX9_forget_96 : decode cX9_forget 96 = .ok (.iaload, 1) := by decide +kernel
theorem dX9_forget_97 : decode cX9_forget 97 = .ok (.if_icmp .ge 41, 3) := by decide +kernel
theorem dX9_forget_100 : decode cX9_forget 100 = .ok (.aload_n 0, 1) := by decide +kernel
theorem dX9_forget_101 : decode cX9_forget 101 = .ok (.getfield 7, 3) := by decide +kernel
theorem dX9_forget_104 : decode cX9_forget 104 = .ok (.sipush 412, 3) := by decide +kernel
theorem dX9_forget_107 : decode cX9_forget 107 = .ok (.iload_n 2, 1) := by decide +kernel
theorem dX9_forget_108 : decode cX9_forget 108 = .ok (.iadd, 1) := by decide +kernel
theorem dX9_forget_109 : decode cX9_forget 109 = .ok (.iaload, 1) := by decide +kernel
theorem dX9_forget_110 : decode cX9_forget 110 = .ok (.iload_n 1, 1) := by decide +kernel
theorem dX9_forget_111 : decode cX9_forget 111 = .ok (.isub, 1) := by decide +kernel
theorem dX9_forget_112 : decode cX9_forget 112 = .ok (.istore_n 3, 1) := by decide +kernel
theorem dX9_forget_113 : decode cX9_forget 113 = .ok (.aload_n 0, 1) := by decide +kernel
theorem dX9_forget_114 : decode cX9_forget 114 = .ok (.getfield 7, 3) := by decide +kernel
theorem dX9_forget_117 : decode cX9_forget 117 = .ok (.sipush 412, 3) := by decide +kernel
theorem dX9_forget_120 : decode cX9_forget 120 = .ok (.iload_n 2, 1) := by decide +kernel
theorem dX9_forget_121 : decode cX9_forget 121 = .ok (.iadd, 1) := by decide +kernel
theorem dX9_forget_122 : decode cX9_forget 122 = .ok (.iload_n 3, 1) := by decide +kernel
theorem dX9_forget_123 : decode cX9_forget 123 = .ok (.ifCond .ge 7, 3) := by decide +kernel
theorem dX9_forget_126 : decode cX9_forget 126 = .ok (.iconst 0, 1) := by decide +kernel
theorem dX9_forget_127 : decode cX9_forget 127 = .ok (.goto 4, 3) := by decide +kernel
theorem dX9_forget_130 : decode cX9_forget 130 = .ok (.iload_n 3, 1) := by decide +kernel
theorem dX9_forget_131 : decode cX9_forget 131 = .ok (.iastore, 1) := by decide +kernel
theorem dX9_forget_132 : decode cX9_forget 132 = .ok (.iinc 2 1, 3) := by decide +kernel
theorem dX9_forget_135 : decode cX9_forget 135 = .ok (.goto (-47), 3) := by decide +kernel
theorem dX9_forget_138 : decode cX9_forget 138 = .ok (.aload_n 0, 1) := by decide +kernel
theorem dX9_forget_139 : decode cX9_forget 139 = .ok (.getfield 7, 3) := by decide +kernel
theorem dX9_forget_142 : decode cX9_forget 142 = .ok (.iconst 0, 1) := by decide +kernel
theorem dX9_forget_143 : decode cX9_forget 143 = .ok (.iaload, 1) := by decide +kernel
theorem dX9_forget_144 : decode cX9_forget 144 = .ok (.ireturn, 1) := by decide +kernel
set_option maxHeartbeats 4000000 in
set_option maxRecDepth 100000 in
theorem w_X9_forget_l48 {w : WT} {l : Launch} {p : Program} {e : Env} {s : State} {m : MethodId} {args : Array Value} {below : List Frame} {meth : Method} {c : Code} (C : KC w p s m args meth c cX9_forget 4 RX9 (some .int)) {v1 : Int32} {L : Lng} {Q : State → Prop} (z : Int32 × Mem) (o : (Int32 × Mem) ⊕ (Mem)) (hf : f_X9_forget_l48 v1 z = some o) (hA : ∀ z, o = .inl z → AtL w p l e ({ frames := 1, cells := 0, slots := 0, locals := 22 } : Room) s m args below meth c Q 4 48 z.2 L [(0, .ref (wAd w 90)), (1, .int v1), (2, .int z.1)] []) (hE : ∀ y, o = .inr y → AtL w p l e ({ frames := 1, cells := 0, slots := 0, locals := 22 } : Room) s m args below meth c Q 4 86 y L [(0, .ref (wAd w 90)), (1, .int v1)] []) : AtL w p l e ({ frames := 1, cells := 0, slots := 0, locals := 22 } : Room) s m args below meth c Q 4 48 z.2 L [(0, .ref (wAd w 90)), (1, .int v1), (2, .int z.1)] [] := by
  intro H locs ls hP hS hl
  unfold f_X9_forget_l48 at hf
  refine lv_iload_n C.1 C.2.1 dX9_forget_48 rfl (lv_at hl 2 rfl) ?_
  refine lv_iconst (v := 2) C.1 C.2.1 dX9_forget_49 (by decide) ?_
  refine lv_aload_n C.1 C.2.1 dX9_forget_50 rfl (lv_at hl 0 rfl) ?_
  refine k_get (v := .ref (wAd w 91)) C hP (lt_Model h0_Model) (ob_Model h0_Model w L _) rfl iX9 1 (by decide) q864 rfl dX9_forget_51 ?_
  refine lv_iconst (v := 0) C.1 C.2.1 dX9_forget_54 (by decide) ?_
  obtain ⟨x9, hx9, hf⟩ := ob hf
  refine k_iald C hP (la_Model_z h0_Model) (ar_Model_z h0_Model w L _) hx9 dX9_forget_55 ?_
  refine lv_imul C.1 C.2.1 dX9_forget_56 ?_
  refine lv_icmp_ge (tgt := 86) C.1 C.2.1 dX9_forget_57 (by decide) (fun c10 => ?_) (fun c10 => ?_)
  · have hf := (if_pos c10).symm.trans hf
    cases hf
    exact hE _ rfl _ _ _ hP hS (lv_sub hl [0, 1] rfl)
  · have hf := (if_neg c10).symm.trans hf
    refine lv_aload_n C.1 C.2.1 dX9_forget_60 rfl (lv_at hl 0 rfl) ?_
    refine k_get (v := .ref (wAd w 91)) C hP (lt_Model h0_Model) (ob_Model h0_Model w L _) rfl iX9 1 (by decide) q864 rfl dX9_forget_61 ?_
    refine lv_iconst (v := 1) C.1 C.2.1 dX9_forget_64 (by decide) ?_
    refine lv_iload_n C.1 C.2.1 dX9_forget_65 rfl (lv_at hl 2 rfl) ?_
    refine lv_iadd C.1 C.2.1 dX9_forget_66 ?_
    refine lv_aload_n C.1 C.2.1 dX9_forget_67 rfl (lv_at hl 0 rfl) ?_
    refine k_get (v := .ref (wAd w 91)) C hP (lt_Model h0_Model) (ob_Model h0_Model w L _) rfl iX9 1 (by decide) q864 rfl dX9_forget_68 ?_
    refine lv_iconst (v := 1) C.1 C.2.1 dX9_forget_71 (by decide) ?_
    refine lv_iload_n C.1 C.2.1 dX9_forget_72 rfl (lv_at hl 2 rfl) ?_
    refine lv_iadd C.1 C.2.1 dX9_forget_73 ?_
    refine lv_iconst (v := 2) C.1 C.2.1 dX9_forget_74 (by decide) ?_
    refine lv_iload_n C.1 C.2.1 dX9_forget_75 rfl (lv_at hl 1 rfl) ?_
    refine lv_imul C.1 C.2.1 dX9_forget_76 ?_
    refine lv_iadd C.1 C.2.1 dX9_forget_77 ?_
    obtain ⟨x11, hx11, hf⟩ := ob hf
    refine k_iald C hP (la_Model_z h0_Model) (ar_Model_z h0_Model w L _) hx11 dX9_forget_78 ?_
    obtain ⟨M12, hM12, hf⟩ := ob hf
    refine k_iast C hP hS (la_Model_z h0_Model) (ar_Model_z h0_Model w L) hM12 dX9_forget_79 (fun H locs hP hS => ?_)
    refine lv_iinc (v := (z.1 + 1)) (lv' := [(2, .int (z.1 + 1)), (0, .ref (wAd w 90)), (1, .int v1)]) C.1 C.2.1 dX9_forget_80 hl (k := 2) rfl rfl (by decide) rfl (fun ls hl => ?_)
    refine lv_goto (tgt := 48) C.1 C.2.1 dX9_forget_83 (by decide) ?_
    cases hf
    exact hA _ rfl _ _ _ hP hS (lv_sub hl [1, 2, 0] rfl)
set_option maxHeartbeats 4000000 in
set_option maxRecDepth 100000 in
theorem w_X9_forget_j131 {w : WT} {l : Launch} {p : Program} {e : Env} {s : State} {m : MethodId} {args : Array Value} {below : List Frame} {meth : Method} {c : Code} (C : KC w p s m args meth c cX9_forget 4 RX9 (some .int)) {v1 : Int32} {v2 : Int32} {s1 : Int32} {s2 : Int32} {M : Mem} {L : Lng} {Q : State → Prop} {o : (Int32 × Mem) ⊕ (Mem)} (hf : f_X9_forget_j131 v1 v2 s1 s2 M = some o) (hA : ∀ z, o = .inl z → AtL w p l e ({ frames := 1, cells := 0, slots := 0, locals := 22 } : Room) s m args below meth c Q 4 88 z.2 L [(0, .ref (wAd w 90)), (1, .int v1), (2, .int z.1)] []) (hE : ∀ y, o = .inr y → AtL w p l e ({ frames := 1, cells := 0, slots := 0, locals := 22 } : Room) s m args below meth c Q 4 138 y L [(0, .ref (wAd w 90))] []) : AtL w p l e ({ frames := 1, cells := 0, slots := 0, locals := 22 } : Room) s m args below meth c Q 4 131 M L [(0, .ref (wAd w 90)), (1, .int v1), (2, .int v2)] [.int s2, .int s1, .ref (wAd w 91)] := by
  intro H locs ls hP hS hl
  unfold f_X9_forget_j131 at hf
  obtain ⟨M18, hM18, hf⟩ := ob hf
  refine k_iast C hP hS (la_Model_z h0_Model) (ar_Model_z h0_Model w L) hM18 dX9_forget_131 (fun H locs hP hS => ?_)
  refine lv_iinc (v := (v2 + 1)) (lv' := [(2, .int (v2 + 1)), (0, .ref (wAd w 90)), (1, .int v1)]) C.1 C.2.1 dX9_forget_132 hl (k := 2) rfl rfl (by decide) rfl (fun ls hl => ?_)
  refine lv_goto (tgt := 88) C.1 C.2.1 dX9_forget_135 (by decide) ?_
  cases hf
  exact hA _ rfl _ _ _ hP hS (lv_sub hl [1, 2, 0] rfl)
set_option maxHeartbeats 4000000 in
set_option maxRecDepth 100000 in
theorem w_X9_forget_l88 {w : WT} {l : Launch} {p : Program} {e : Env} {s : State} {m : MethodId} {args : Array Value} {below : List Frame} {meth : Method} {c : Code} (C : KC w p s m args meth c cX9_forget 4 RX9 (some .int)) {v1 : Int32} {L : Lng} {Q : State → Prop} (z : Int32 × Mem) (o : (Int32 × Mem) ⊕ (Mem)) (hf : f_X9_forget_l88 v1 z = some o) (hA : ∀ z, o = .inl z → AtL w p l e ({ frames := 1, cells := 0, slots := 0, locals := 22 } : Room) s m args below meth c Q 4 88 z.2 L [(0, .ref (wAd w 90)), (1, .int v1), (2, .int z.1)] []) (hE : ∀ y, o = .inr y → AtL w p l e ({ frames := 1, cells := 0, slots := 0, locals := 22 } : Room) s m args below meth c Q 4 138 y L [(0, .ref (wAd w 90))] []) : AtL w p l e ({ frames := 1, cells := 0, slots := 0, locals := 22 } : Room) s m args below meth c Q 4 88 z.2 L [(0, .ref (wAd w 90)), (1, .int v1), (2, .int z.1)] [] := by
  intro H locs ls hP hS hl
  unfold f_X9_forget_l88 at hf
  refine lv_iload_n C.1 C.2.1 dX9_forget_88 rfl (lv_at hl 2 rfl) ?_
  refine lv_aload_n C.1 C.2.1 dX9_forget_89 rfl (lv_at hl 0 rfl) ?_
  refine k_get (v := .ref (wAd w 91)) C hP (lt_Model h0_Model) (ob_Model h0_Model w L _) rfl iX9 1 (by decide) q864 rfl dX9_forget_90 ?_
  refine lv_sipush (v := 411) C.1 C.2.1 dX9_forget_93 (by decide) ?_
  obtain ⟨x14, hx14, hf⟩ := ob hf
  refine k_iald C hP (la_Model_z h0_Model) (ar_Model_z h0_Model w L _) hx14 dX9_forget_96 ?_
  refine lv_icmp_ge (tgt := 138) C.1 C.2.1 dX9_forget_97 (by decide) (fun c15 => ?_) (fun c15 => ?_)
  · have hf := (if_pos c15).symm.trans hf
    cases hf
    exact hE _ rfl _ _ _ hP hS (lv_sub hl [0] rfl)
  · have hf := (if_neg c15).symm.trans hf
    refine lv_aload_n C.1 C.2.1 dX9_forget_100 rfl (lv_at hl 0 rfl) ?_
    refine k_get (v := .ref (wAd w 91)) C hP (lt_Model h0_Model) (ob_Model h0_Model w L _) rfl iX9 1 (by decide) q864 rfl dX9_forget_101 ?_
    refine lv_sipush (v := 412) C.1 C.2.1 dX9_forget_104 (by decide) ?_
    refine lv_iload_n C.1 C.2.1 dX9_forget_107 rfl (lv_at hl 2 rfl) ?_
    refine lv_iadd C.1 C.2.1 dX9_forget_108 ?_
    obtain ⟨x16, hx16, hf⟩ := ob hf
    refine k_iald C hP (la_Model_z h0_Model) (ar_Model_z h0_Model w L _) hx16 dX9_forget_109 ?_
    refine lv_iload_n C.1 C.2.1 dX9_forget_110 rfl (lv_at hl 1 rfl) ?_
    refine lv_isub C.1 C.2.1 dX9_forget_111 ?_
    refine lv_istore_n (lv' := [(3, .int (x16 - v1)), (0, .ref (wAd w 90)), (1, .int v1), (2, .int z.1)]) C.1 C.2.1 dX9_forget_112 rfl hl (by decide) rfl (fun ls hl => ?_)
    refine lv_aload_n C.1 C.2.1 dX9_forget_113 rfl (lv_at hl 1 rfl) ?_
    refine k_get (v := .ref (wAd w 91)) C hP (lt_Model h0_Model) (ob_Model h0_Model w L _) rfl iX9 1 (by decide) q864 rfl dX9_forget_114 ?_
    refine lv_sipush (v := 412) C.1 C.2.1 dX9_forget_117 (by decide) ?_
    refine lv_iload_n C.1 C.2.1 dX9_forget_120 rfl (lv_at hl 3 rfl) ?_
    refine lv_iadd C.1 C.2.1 dX9_forget_121 ?_
    refine lv_iload_n C.1 C.2.1 dX9_forget_122 rfl (lv_at hl 0 rfl) ?_
    refine lv_if_ge (tgt := 130) C.1 C.2.1 dX9_forget_123 (by decide) (fun c17 => ?_) (fun c17 => ?_)
    · have hf := (if_pos c17).symm.trans hf
      refine lv_iload_n C.1 C.2.1 dX9_forget_130 rfl (lv_at hl 0 rfl) ?_
      exact w_X9_forget_j131 C hf hA hE _ _ _ hP hS (lv_sub hl [1, 2, 3] rfl)
    · have hf := (if_neg c17).symm.trans hf
      refine lv_iconst (v := 0) C.1 C.2.1 dX9_forget_126 (by decide) ?_
      refine lv_goto (tgt := 131) C.1 C.2.1 dX9_forget_127 (by decide) ?_
      exact w_X9_forget_j131 C hf hA hE _ _ _ hP hS (lv_sub hl [1, 2, 3] rfl)
set_option maxHeartbeats 4000000 in
set_option maxRecDepth 100000 in
theorem w_X9_forget_j20 {w : WT} {l : Launch} {p : Program} {e : Env} {s : State} {m : MethodId} {args : Array Value} {below : List Frame} {meth : Method} {c : Code} (C : KC w p s m args meth c cX9_forget 4 RX9 (some .int)) {v1 : Int32} {s1 : Int32} {M : Mem} {L : Lng} {out : Int32 × Mem} (hf : f_X9_forget_j20 v1 s1 M = some out) : AtL w p l e ({ frames := 1, cells := 0, slots := 0, locals := 22 } : Room) s m args below meth c (MQ below (QI w out.1 out.2 L) args s 0 0 (wA w)) 4 20 M L [(0, .ref (wAd w 90)), (1, .int v1)] [.int s1, .ref (wAd w 90)] := by
  intro H locs ls hP hS hl
  unfold f_X9_forget_j20 at hf
  obtain ⟨M4, hM4, hf⟩ := ob hf
  refine k_puti C hP hS (lt_Model h0_Model) (fun row => ob_Model h0_Model w L row) rfl iX9 tyX9 tyX9_ok nmX9 0 (by decide) q863 rfl rfl (Nat.le_of_ble_eq_true rfl) rfl hM4 dX9_forget_20 (fun H locs hP hS => ?_)
  refine lv_aload_n C.1 C.2.1 dX9_forget_23 rfl (lv_at hl 0 rfl) ?_
  refine k_get (v := .int (M4 90 0)) C hP (lt_Model h0_Model) (ob_Model h0_Model w L _) rfl iX9 0 (by decide) q863 rfl dX9_forget_24 ?_
  refine lv_if_le (tgt := 32) C.1 C.2.1 dX9_forget_27 (by decide) (fun c5 => ?_) (fun c5 => ?_)
  · have hf := (if_pos c5).symm.trans hf
    refine lv_aload_n C.1 C.2.1 dX9_forget_32 rfl (lv_at hl 0 rfl) ?_
    obtain ⟨r6, hr6, hf⟩ := ob hf
    refine kcv (kV (As := []) (rest := []) C hl.1 hP hS (c_X9_save w l C.2.2.2.2.2.2.2.2 (L := L) hr6) (gV q969 q971 qp24 q10 q972) hd_X9_save (lt_Model h0_Model) (ob_Model h0_Model w L _) rfl ⟨rfl, rfl⟩ ⟨Nat.le_of_ble_eq_true rfl, Nat.le_of_ble_eq_true rfl⟩ rfl rfl (Nat.le_of_ble_eq_true rfl) dX9_forget_33 ⟨Nat.zero_le _, Nat.zero_le _⟩) hS (fun H locs hP hS => ?_)
    refine lv_aload_n C.1 C.2.1 dX9_forget_36 rfl (lv_at hl 0 rfl) ?_
    refine k_get (v := .ref (wAd w 91)) C hP (lt_Model h0_Model) (ob_Model h0_Model w L _) rfl iX9 1 (by decide) q864 rfl dX9_forget_37 ?_
    refine lv_iconst (v := 0) C.1 C.2.1 dX9_forget_40 (by decide) ?_
    refine lv_dup2_11 C.1 C.2.1 dX9_forget_41 rfl rfl ?_
    obtain ⟨x7, hx7, hf⟩ := ob hf
    refine k_iald C hP (la_Model_z h0_Model) (ar_Model_z h0_Model w L _) hx7 dX9_forget_42 ?_
    refine lv_iload_n C.1 C.2.1 dX9_forget_43 rfl (lv_at hl 1 rfl) ?_
    refine lv_isub C.1 C.2.1 dX9_forget_44 ?_
    obtain ⟨M8, hM8, hf⟩ := ob hf
    refine k_iast C hP hS (la_Model_z h0_Model) (ar_Model_z h0_Model w L) hM8 dX9_forget_45 (fun H locs hP hS => ?_)
    refine lv_iconst (v := 0) C.1 C.2.1 dX9_forget_46 (by decide) ?_
    refine lv_istore_n (lv' := [(2, .int 0), (0, .ref (wAd w 90)), (1, .int v1)]) C.1 C.2.1 dX9_forget_47 rfl hl (by decide) rfl (fun ls hl => ?_)
    obtain ⟨o13, ho13, hf⟩ := ob hf
    refine loop_at (w_X9_forget_l48 C) FU _ o13 ho13 ?_ _ _ _ hP hS (lv_sub hl [1, 2, 0] rfl)
    intro H locs ls hP hS hl
    refine lv_iconst (v := 0) C.1 C.2.1 dX9_forget_86 (by decide) ?_
    refine lv_istore_n (lv' := [(2, .int 0), (0, .ref (wAd w 90)), (1, .int v1)]) C.1 C.2.1 dX9_forget_87 rfl hl (by decide) rfl (fun ls hl => ?_)
    obtain ⟨o19, ho19, hf⟩ := ob hf
    refine loop_at (w_X9_forget_l88 C) FU _ o19 ho19 ?_ _ _ _ hP hS (lv_sub hl [1, 2, 0] rfl)
    intro H locs ls hP hS hl
    refine lv_aload_n C.1 C.2.1 dX9_forget_138 rfl (lv_at hl 0 rfl) ?_
    refine k_get (v := .ref (wAd w 91)) C hP (lt_Model h0_Model) (ob_Model h0_Model w L _) rfl iX9 1 (by decide) q864 rfl dX9_forget_139 ?_
    refine lv_iconst (v := 0) C.1 C.2.1 dX9_forget_142 (by decide) ?_
    obtain ⟨x20, hx20, hf⟩ := ob hf
    refine k_iald C hP (la_Model_z h0_Model) (ar_Model_z h0_Model w L _) hx20 dX9_forget_143 ?_
    cases hf
    exact kri C hP hS dX9_forget_144
  · have hf := (if_neg c5).symm.trans hf
    refine lv_iconst (v := 0) C.1 C.2.1 dX9_forget_30 (by decide) ?_
    cases hf
    exact kri C hP hS dX9_forget_31
set_option maxHeartbeats 4000000 in
set_option maxRecDepth 100000 in
theorem c_X9_forget (w : WT) (l : Launch) (hw : WOK w) {a1 : Int32} {M : Mem} {L : Lng} {out : Int32 × Mem} (hf : f_X9_forget a1 M = some out) : Met l yX9_forget (Cond.code yX9_forget cX9_forget 4 (some .int) :: BG) ({ frames := 1, cells := 0, slots := 0, locals := 22 } : Room) (PRE w [.ref (wAd w 90), .int a1] M L) (QI w out.1 out.2 L) 0 0 (wA w) := by
  refine kEnt hw (by decide +kernel) rfl (Nat.le_of_ble_eq_true rfl) ?_
  intro p e s m args below meth c C ls hl hP
  have hS : va_S (wA w) s.heap s.heap [] := va_S.rf
  have hl : lv_has ls 4 [(0, .ref (wAd w 90)), (1, .int a1)] := hl
  unfold f_X9_forget at hf
  refine lv_aload_n C.1 C.2.1 dX9_forget_0 rfl (lv_at hl 0 rfl) ?_
  refine lv_iload_n C.1 C.2.1 dX9_forget_1 rfl (lv_at hl 1 rfl) ?_
  refine lv_iconst (v := 1) C.1 C.2.1 dX9_forget_2 (by decide) ?_
  refine lv_aload_n C.1 C.2.1 dX9_forget_3 rfl (lv_at hl 0 rfl) ?_
  refine k_get (v := .ref (wAd w 91)) C hP (lt_Model h0_Model) (ob_Model h0_Model w L _) rfl iX9 1 (by decide) q864 rfl dX9_forget_4 ?_
  refine lv_iconst (v := 0) C.1 C.2.1 dX9_forget_7 (by decide) ?_
  obtain ⟨x1, hx1, hf⟩ := ob hf
  refine k_iald C hP (la_Model_z h0_Model) (ar_Model_z h0_Model w L _) hx1 dX9_forget_8 ?_
  obtain ⟨r2, hr2, hf⟩ := ob hf
  refine kci (kS (As := [.int a1, .int 1, .int x1]) (rest := [.ref (wAd w 90)]) C hl.1 hP hS (c_X9_within w l C.2.2.2.2.2.2.2.2 (L := L) hr2) (gS q963 q964 q10 q965) hd_X9_within ⟨rfl, rfl⟩ ⟨Nat.le_of_ble_eq_true rfl, Nat.le_of_ble_eq_true rfl⟩ rfl rfl (Nat.le_of_ble_eq_true rfl) dX9_forget_9 ⟨Nat.zero_le _, Nat.zero_le _⟩) hS (fun H locs hP hS => ?_)
  refine lv_if_eq (tgt := 19) C.1 C.2.1 dX9_forget_12 (by decide) (fun c3 => ?_) (fun c3 => ?_)
  · have hf := (if_pos c3).symm.trans hf
    refine lv_iconst (v := 1) C.1 C.2.1 dX9_forget_19 (by decide) ?_
    exact w_X9_forget_j20 C hf _ _ _ hP hS hl
  · have hf := (if_neg c3).symm.trans hf
    refine lv_iconst (v := 0) C.1 C.2.1 dX9_forget_15 (by decide) ?_
    refine lv_goto (tgt := 20) C.1 C.2.1 dX9_forget_16 (by decide) ?_
    exact w_X9_forget_j20 C hf _ _ _ hP hS hl
theorem dX9_complain_0 : decode cX9_complain 0 = .ok (.aload_n 0, 1) := by decide +kernel
theorem dX9_complain_1 : decode cX9_complain 1 = .ok (.iload_n 1, 1) := by decide +kernel
theorem dX9_complain_2 : decode cX9_complain 2 = .ok (.iconst 0, 1) := by decide +kernel
theorem dX9_complain_3 : decode cX9_complain 3 = .ok (.sipush 300, 3) := by decide +kernel
theorem dX9_complain_6 : decode cX9_complain 6 = .ok (.invokestatic 65, 3) := by decide +kernel
theorem dX9_complain_9 : decode cX9_complain 9 = .ok (.ifCond .ne 7, 3) := by decide +kernel
theorem dX9_complain_12 : decode cX9_complain 12 = .ok (.iconst 1, 1) := by decide +kernel
theorem dX9_complain_13 : decode cX9_complain 13 = .ok (.goto 21, 3) := by decide +kernel
theorem dX9_complain_16 : decode cX9_complain 16 = .ok (.aload_n 0, 1) := by decide +kernel
theorem dX9_complain_17 : decode cX9_complain 17 = .ok (.getfield 7, 3) := by decide +kernel
theorem dX9_complain_20 : decode cX9_complain 20 = .ok (.sipush 411, 3) := by decide +kernel
theorem dX9_complain_23 : decode cX9_complain 23 = .ok (.iaload, 1) := by decide +kernel
theorem dX9_complain_24 : decode cX9_complain 24 = .ok (.bipush 20, 2) := by decide +kernel
theorem dX9_complain_26 : decode cX9_complain 26 = .ok (.if_icmp .ne 7, 3) := by decide +kernel
theorem dX9_complain_29 : decode cX9_complain 29 = .ok (.iconst 2, 1) := by decide +kernel
theorem dX9_complain_30 : decode cX9_complain 30 = .ok (.goto 4, 3) := by decide +kernel
theorem dX9_complain_33 : decode cX9_complain 33 = .ok (.iconst 0, 1) := by decide +kernel
theorem dX9_complain_34 : decode cX9_complain 34 = .ok (.putfield 61, 3) := by decide +kernel
theorem dX9_complain_37 : decode cX9_complain 37 = .ok (.aload_n 0, 1) := by decide +kernel
theorem dX9_complain_38 : decode cX9_complain 38 = .ok (.getfield 61, 3) := by decide +kernel
theorem dX9_complain_41 : decode cX9_complain 41 = .ok (.ifCond .le 5, 3) := by decide +kernel
theorem dX9_complain_44 : decode cX9_complain 44 = .ok (.iconst 0, 1) := by decide +kernel
theorem dX9_complain_45 : decode cX9_complain 45 = .ok (.ireturn, 1) := by decide +kernel
theorem dX9_complain_46 : decode cX9_complain 46 = .ok (.aload_n 0, 1) := by decide +kernel
theorem dX9_complain_47 : decode cX9_complain 47 = .ok (.invokevirtual 122, 3) := by decide +kernel
theorem dX9_complain_50 : decode cX9_complain 50 = .ok (.aload_n 0, 1) := by decide +kernel
theorem dX9_complain_51 : decode cX9_complain 51 = .ok (.getfield 7, 3) := by decide +kernel
theorem dX9_complain_54 : decode cX9_complain 54 = .ok (.sipush 412, 3) := by decide +kernel
theorem dX9_complain_57 : decode cX9_complain 57 = .ok (.aload_n 0, 1) := by decide +kernel
theorem dX9_complain_58 : decode cX9_complain 58 = .ok (.getfield 7, 3) := by decide +kernel
theorem dX9_complain_61 : decode cX9_complain 61 = .ok (.sipush 411, 3) := by decide +kernel
theorem dX9_complain_64 : decode cX9_complain 64 = .ok (.iaload, 1) := by decide +kernel
theorem dX9_complain_65 : decode cX9_complain 65 = .ok (.iadd, 1) := by decide +kernel
theorem dX9_complain_66 : decode cX9_complain 66 = .ok (.iload_n 1, 1) := by decide +kernel
theorem dX9_complain_67 : decode cX9_complain 67 = .ok (.iastore, 1) := by decide +kernel
theorem dX9_complain_68 : decode cX9_complain 68 = .ok (.aload_n 0, 1) := by decide +kernel
theorem dX9_complain_69 : decode cX9_complain 69 = .ok (.getfield 7, 3) := by decide +kernel
theorem dX9_complain_72 : decode cX9_complain 72 = .ok (.sipush 411, 3) := by decide +kernel
theorem dX9_complain_75 : decode cX9_complain 75 = .ok (.dup2, 1) := by decide +kernel
theorem dX9_complain_76 : decode cX9_complain 76 = .ok (.iaload, 1) := by decide +kernel
theorem dX9_complain_77 : decode cX9_complain 77 = .ok (.iconst 1, 1) := by decide +kernel
theorem dX9_complain_78 : decode cX9_complain 78 = .ok (.iadd, 1) := by decide +kernel
theorem dX9_complain_79 : decode cX9_complain 79 = .ok (.iastore, 1) := by decide +kernel
theorem dX9_complain_80 : decode cX9_complain 80 = .ok (.aload_n 0, 1) := by decide +kernel
theorem dX9_complain_81 : decode cX9_complain 81 = .ok (.getfield 7, 3) := by decide +kernel
theorem dX9_complain_84 : decode cX9_complain 84 = .ok (.sipush 411, 3) := by decide +kernel
theorem dX9_complain_87 : decode cX9_complain 87 = .ok (.iaload, 1) := by decide +kernel
theorem dX9_complain_88 : decode cX9_complain 88 = .ok (.iconst 1, 1) := by decide +kernel
theorem dX9_complain_89 : decode cX9_complain 89 = .ok (.isub, 1) := by decide +kernel
theorem dX9_complain_90 : decode cX9_complain 90 = .ok (.ireturn, 1) := by decide +kernel
set_option maxHeartbeats 4000000 in
set_option maxRecDepth 100000 in
theorem w_X9_complain_j34 {w : WT} {l : Launch} {p : Program} {e : Env} {s : State} {m : MethodId} {args : Array Value} {below : List Frame} {meth : Method} {c : Code} (C : KC w p s m args meth c cX9_complain 2 RX9 (some .int)) {v1 : Int32} {s1 : Int32} {M : Mem} {L : Lng} {out : Int32 × Mem} (hf : f_X9_complain_j34 v1 s1 M = some out) : AtL w p l e ({ frames := 1, cells := 0, slots := 0, locals := 22 } : Room) s m args below meth c (MQ below (QI w out.1 out.2 L) args s 0 0 (wA w)) 2 34 M L [(0, .ref (wAd w 90)), (1, .int v1)] [.int s1, .ref (wAd w 90)] := by
  intro H locs ls hP hS hl
  unfold f_X9_complain_j34 at hf
  obtain ⟨M5, hM5, hf⟩ := ob hf
  refine k_puti C hP hS (lt_Model h0_Model) (fun row => ob_Model h0_Model w L row) rfl iX9 tyX9 tyX9_ok nmX9 0 (by decide) q863 rfl rfl (Nat.le_of_ble_eq_true rfl) rfl hM5 dX9_complain_34 (fun H locs hP hS => ?_)
  refine lv_aload_n C.1 C.2.1 dX9_complain_37 rfl (lv_at hl 0 rfl) ?_
  refine k_get (v := .int (M5 90 0)) C hP (lt_Model h0_Model) (ob_Model h0_Model w L _) rfl iX9 0 (by decide) q863 rfl dX9_complain_38 ?_
  refine lv_if_le (tgt := 46) C.1 C.2.1 dX9_complain_41 (by decide) (fun c6 => ?_) (fun c6 => ?_)
  · have hf := (if_pos c6).symm.trans hf
    refine lv_aload_n C.1 C.2.1 dX9_complain_46 rfl (lv_at hl 0 rfl) ?_
    obtain ⟨r7, hr7, hf⟩ := ob hf
    refine kcv (kV (As := []) (rest := []) C hl.1 hP hS (c_X9_save w l C.2.2.2.2.2.2.2.2 (L := L) hr7) (gV q969 q971 qp24 q10 q972) hd_X9_save (lt_Model h0_Model) (ob_Model h0_Model w L _) rfl ⟨rfl, rfl⟩ ⟨Nat.le_of_ble_eq_true rfl, Nat.le_of_ble_eq_true rfl⟩ rfl rfl (Nat.le_of_ble_eq_true rfl) dX9_complain_47 ⟨Nat.zero_le _, Nat.zero_le _⟩) hS (fun H locs hP hS => ?_)
    refine lv_aload_n C.1 C.2.1 dX9_complain_50 rfl (lv_at hl 0 rfl) ?_
    refine k_get (v := .ref (wAd w 91)) C hP (lt_Model h0_Model) (ob_Model h0_Model w L _) rfl iX9 1 (by decide) q864 rfl dX9_complain_51 ?_
    refine lv_sipush (v := 412) C.1 C.2.1 dX9_complain_54 (by decide) ?_
    refine lv_aload_n C.1 C.2.1 dX9_complain_57 rfl (lv_at hl 0 rfl) ?_
    refine k_get (v := .ref (wAd w 91)) C hP (lt_Model h0_Model) (ob_Model h0_Model w L _) rfl iX9 1 (by decide) q864 rfl dX9_complain_58 ?_
    refine lv_sipush (v := 411) C.1 C.2.1 dX9_complain_61 (by decide) ?_
    obtain ⟨x8, hx8, hf⟩ := ob hf
    refine k_iald C hP (la_Model_z h0_Model) (ar_Model_z h0_Model w L _) hx8 dX9_complain_64 ?_
    refine lv_iadd C.1 C.2.1 dX9_complain_65 ?_
    refine lv_iload_n C.1 C.2.1 dX9_complain_66 rfl (lv_at hl 1 rfl) ?_
    obtain ⟨M9, hM9, hf⟩ := ob hf
    refine k_iast C hP hS (la_Model_z h0_Model) (ar_Model_z h0_Model w L) hM9 dX9_complain_67 (fun H locs hP hS => ?_)
    refine lv_aload_n C.1 C.2.1 dX9_complain_68 rfl (lv_at hl 0 rfl) ?_
    refine k_get (v := .ref (wAd w 91)) C hP (lt_Model h0_Model) (ob_Model h0_Model w L _) rfl iX9 1 (by decide) q864 rfl dX9_complain_69 ?_
    refine lv_sipush (v := 411) C.1 C.2.1 dX9_complain_72 (by decide) ?_
    refine lv_dup2_11 C.1 C.2.1 dX9_complain_75 rfl rfl ?_
    obtain ⟨x10, hx10, hf⟩ := ob hf
    refine k_iald C hP (la_Model_z h0_Model) (ar_Model_z h0_Model w L _) hx10 dX9_complain_76 ?_
    refine lv_iconst (v := 1) C.1 C.2.1 dX9_complain_77 (by decide) ?_
    refine lv_iadd C.1 C.2.1 dX9_complain_78 ?_
    obtain ⟨M11, hM11, hf⟩ := ob hf
    refine k_iast C hP hS (la_Model_z h0_Model) (ar_Model_z h0_Model w L) hM11 dX9_complain_79 (fun H locs hP hS => ?_)
    refine lv_aload_n C.1 C.2.1 dX9_complain_80 rfl (lv_at hl 0 rfl) ?_
    refine k_get (v := .ref (wAd w 91)) C hP (lt_Model h0_Model) (ob_Model h0_Model w L _) rfl iX9 1 (by decide) q864 rfl dX9_complain_81 ?_
    refine lv_sipush (v := 411) C.1 C.2.1 dX9_complain_84 (by decide) ?_
    obtain ⟨x12, hx12, hf⟩ := ob hf
    refine k_iald C hP (la_Model_z h0_Model) (ar_Model_z h0_Model w L _) hx12 dX9_complain_87 ?_
    refine lv_iconst (v := 1) C.1 C.2.1 dX9_complain_88 (by decide) ?_
    refine lv_isub C.1 C.2.1 dX9_complain_89 ?_
    cases hf
    exact kri C hP hS dX9_complain_90
  · have hf := (if_neg c6).symm.trans hf
    refine lv_iconst (v := 0) C.1 C.2.1 dX9_complain_44 (by decide) ?_
    cases hf
    exact kri C hP hS dX9_complain_45
set_option maxHeartbeats 4000000 in
set_option maxRecDepth 100000 in
theorem c_X9_complain (w : WT) (l : Launch) (hw : WOK w) {a1 : Int32} {M : Mem} {L : Lng} {out : Int32 × Mem} (hf : f_X9_complain a1 M = some out) : Met l yX9_complain (Cond.code yX9_complain cX9_complain 2 (some .int) :: BG) ({ frames := 1, cells := 0, slots := 0, locals := 22 } : Room) (PRE w [.ref (wAd w 90), .int a1] M L) (QI w out.1 out.2 L) 0 0 (wA w) := by
  refine kEnt hw (by decide +kernel) rfl (Nat.le_of_ble_eq_true rfl) ?_
  intro p e s m args below meth c C ls hl hP
  have hS : va_S (wA w) s.heap s.heap [] := va_S.rf
  have hl : lv_has ls 2 [(0, .ref (wAd w 90)), (1, .int a1)] := hl
  unfold f_X9_complain at hf
  refine lv_aload_n C.1 C.2.1 dX9_complain_0 rfl (lv_at hl 0 rfl) ?_
  refine lv_iload_n C.1 C.2.1 dX9_complain_1 rfl (lv_at hl 1 rfl) ?_
  refine lv_iconst (v := 0) C.1 C.2.1 dX9_complain_2 (by decide) ?_
  refine lv_sipush (v := 300) C.1 C.2.1 dX9_complain_3 (by decide) ?_
  obtain ⟨r1, hr1, hf⟩ := ob hf
  refine kci (kS (As := [.int a1, .int 0, .int 300]) (rest := [.ref (wAd w 90)]) C hl.1 hP hS (c_X9_within w l C.2.2.2.2.2.2.2.2 (L := L) hr1) (gS q963 q964 q10 q965) hd_X9_within ⟨rfl, rfl⟩ ⟨Nat.le_of_ble_eq_true rfl, Nat.le_of_ble_eq_true rfl⟩ rfl rfl (Nat.le_of_ble_eq_true rfl) dX9_complain_6 ⟨Nat.zero_le _, Nat.zero_le _⟩) hS (fun H locs hP hS => ?_)
  refine lv_if_ne (tgt := 16) C.1 C.2.1 dX9_complain_9 (by decide) (fun c2 => ?_) (fun c2 => ?_)
  · have hf := (if_neg c2).symm.trans hf
    refine lv_aload_n C.1 C.2.1 dX9_complain_16 rfl (lv_at hl 0 rfl) ?_
    refine k_get (v := .ref (wAd w 91)) C hP (lt_Model h0_Model) (ob_Model h0_Model w L _) rfl iX9 1 (by decide) q864 rfl dX9_complain_17 ?_
    refine lv_sipush (v := 411) C.1 C.2.1 dX9_complain_20 (by decide) ?_
    obtain ⟨x3, hx3, hf⟩ := ob hf
    refine k_iald C hP (la_Model_z h0_Model) (ar_Model_z h0_Model w L _) hx3 dX9_complain_23 ?_
    refine lv_bipush (v := 20) C.1 C.2.1 dX9_complain_24 (by decide) ?_
    refine lv_icmp_ne (tgt := 33) C.1 C.2.1 dX9_complain_26 (by decide) (fun c4 => ?_) (fun c4 => ?_)
    · have hf := (if_neg c4).symm.trans hf
      refine lv_iconst (v := 0) C.1 C.2.1 dX9_complain_33 (by decide) ?_
      exact w_X9_complain_j34 C hf _ _ _ hP hS hl
    · have hf := (if_pos c4).symm.trans hf
      refine lv_iconst (v := 2) C.1 C.2.1 dX9_complain_29 (by decide) ?_
      refine lv_goto (tgt := 34) C.1 C.2.1 dX9_complain_30 (by decide) ?_
      exact w_X9_complain_j34 C hf _ _ _ hP hS hl
  · have hf := (if_pos c2).symm.trans hf
    refine lv_iconst (v := 1) C.1 C.2.1 dX9_complain_12 (by decide) ?_
    refine lv_goto (tgt := 34) C.1 C.2.1 dX9_complain_13 (by decide) ?_
    exact w_X9_complain_j34 C hf _ _ _ hP hS hl
theorem dX9_isComplaint_0 : decode cX9_isComplaint 0 = .ok (.iload_n 1, 1) := by decide +kernel
theorem dX9_isComplaint_1 : decode cX9_isComplaint 1 = .ok (.iconst 0, 1) := by decide +kernel
theorem dX9_isComplaint_2 : decode cX9_isComplaint 2 = .ok (.aload_n 0, 1) := by decide +kernel
theorem dX9_isComplaint_3 : decode cX9_isComplaint 3 = .ok (.getfield 7, 3) := by decide +kernel
theorem dX9_isComplaint_6 : decode cX9_isComplaint 6 = .ok (.sipush 411, 3) := by decide +kernel
theorem dX9_isComplaint_9 : decode cX9_isComplaint 9 = .ok (.iaload, 1) := by decide +kernel
theorem dX9_isComplaint_10 : decode cX9_isComplaint 10 = .ok (.iconst 1, 1) := by decide +kernel
theorem dX9_isComplaint_11 : decode cX9_isComplaint 11 = .ok (.isub, 1) := by decide +kernel
theorem dX9_isComplaint_12 : decode cX9_isComplaint 12 = .ok (.invokestatic 65, 3) := by decide +kernel
theorem dX9_isComplaint_15 : decode cX9_isComplaint 15 = .ok (.ireturn, 1) := by decide +kernel
set_option maxHeartbeats 4000000 in
set_option maxRecDepth 100000 in
theorem c_X9_isComplaint (w : WT) (l : Launch) (hw : WOK w) {a1 : Int32} {M : Mem} {L : Lng} {out : Int32} (hf : f_X9_isComplaint a1 M = some out) : Met l yX9_isComplaint (Cond.code yX9_isComplaint cX9_isComplaint 2 (some .boolean) :: BG) ({ frames := 1, cells := 0, slots := 0, locals := 22 } : Room) (PRE w [.ref (wAd w 90), .int a1] M L) (QI w out M L) 0 0 (wA w) := by
  refine kEnt hw (by decide +kernel) rfl (Nat.le_of_ble_eq_true rfl) ?_
  intro p e s m args below meth c C ls hl hP
  have hS : va_S (wA w) s.heap s.heap [] := va_S.rf
  have hl : lv_has ls 2 [(0, .ref (wAd w 90)), (1, .int a1)] := hl
  unfold f_X9_isComplaint at hf
  refine lv_iload_n C.1 C.2.1 dX9_isComplaint_0 rfl (lv_at hl 1 rfl) ?_
  refine lv_iconst (v := 0) C.1 C.2.1 dX9_isComplaint_1 (by decide) ?_
  refine lv_aload_n C.1 C.2.1 dX9_isComplaint_2 rfl (lv_at hl 0 rfl) ?_
  refine k_get (v := .ref (wAd w 91)) C hP (lt_Model h0_Model) (ob_Model h0_Model w L _) rfl iX9 1 (by decide) q864 rfl dX9_isComplaint_3 ?_
  refine lv_sipush (v := 411) C.1 C.2.1 dX9_isComplaint_6 (by decide) ?_
  obtain ⟨x1, hx1, hf⟩ := ob hf
  refine k_iald C hP (la_Model_z h0_Model) (ar_Model_z h0_Model w L _) hx1 dX9_isComplaint_9 ?_
  refine lv_iconst (v := 1) C.1 C.2.1 dX9_isComplaint_10 (by decide) ?_
  refine lv_isub C.1 C.2.1 dX9_isComplaint_11 ?_
  obtain ⟨r2, hr2, hf⟩ := ob hf
  refine kci (kS (As := [.int a1, .int 0, .int (x1 - 1)]) (rest := []) C hl.1 hP hS (c_X9_within w l C.2.2.2.2.2.2.2.2 (L := L) hr2) (gS q963 q964 q10 q965) hd_X9_within ⟨rfl, rfl⟩ ⟨Nat.le_of_ble_eq_true rfl, Nat.le_of_ble_eq_true rfl⟩ rfl rfl (Nat.le_of_ble_eq_true rfl) dX9_isComplaint_12 ⟨Nat.zero_le _, Nat.zero_le _⟩) hS (fun H locs hP hS => ?_)
  obtain ⟨x3, hx3, hf⟩ := ob hf
  cases hf
  exact krz C hP hS hx3 dX9_isComplaint_15
theorem dX9_withdraw_0 : decode cX9_withdraw 0 = .ok (.aload_n 0, 1) := by decide +kernel
theorem dX9_withdraw_1 : decode cX9_withdraw 1 = .ok (.aload_n 0, 1) := by decide +kernel
theorem dX9_withdraw_2 : decode cX9_withdraw 2 = .ok (.iload_n 1, 1) := by decide +kernel
theorem dX9_withdraw_3 : decode cX9_withdraw 3 = .ok (.invokevirtual 135, 3) := by decide +kernel
theorem dX9_withdraw_6 : decode cX9_withdraw 6 = .ok (.ifCond .eq 7, 3) := by decide +kernel
theorem dX9_withdraw_9 : decode cX9_withdraw 9 = .ok (.iconst 0, 1) := by decide +kernel
theorem dX9_withdraw_10 : decode cX9_withdraw 10 = .ok (.goto 4, 3) := by decide +kernel
theorem dX9_withdraw_13 : decode cX9_withdraw 13 = .ok (.iconst 1, 1) := by decide +kernel
theorem dX9_withdraw_14 : decode cX9_withdraw 14 = .ok (.putfield 61, 3) := by decide +kernel
theorem dX9_withdraw_17 : decode cX9_withdraw 17 = .ok (.aload_n 0, 1) := by decide +kernel
theorem dX9_withdraw_18 : decode cX9_withdraw 18 = .ok (.getfield 61, 3) := by decide +kernel
theorem dX9_withdraw_21 : decode cX9_withdraw 21 = .ok (.ifCond .le 5, 3) := by decide +kernel
theorem dX9_withdraw_24 : decode cX9_withdraw 24 = .ok (.iconst 0, 1) := by decide +kernel
theorem dX9_withdraw_25 : decode cX9_withdraw 25 = .ok (.ireturn, 1) := by decide +kernel
theorem dX9_withdraw_26 : decode cX9_withdraw 26 = .ok (.aload_n 0, 1) := by decide +kernel
theorem dX9_withdraw_27 : decode cX9_withdraw 27 = .ok (.invokevirtual 122, 3) := by decide +kernel
theorem dX9_withdraw_30 : decode cX9_withdraw 30 = .ok (.aload_n 0, 1) := by decide +kernel
theorem dX9_withdraw_31 : decode cX9_withdraw 31 = .ok (.invokevirtual 138, 3) := by decide +kernel
theorem dX9_withdraw_34 : decode cX9_withdraw 34 = .ok (.aload_n 0, 1) := by decide +kernel
theorem dX9_withdraw_35 : decode cX9_withdraw 35 = .ok (.getfield 52, 3) := by decide +kernel
theorem dX9_withdraw_38 : decode cX9_withdraw 38 = .ok (.iload_n 1, 1) := by decide +kernel
theorem dX9_withdraw_39 : decode cX9_withdraw 39 = .ok (.iaload, 1) := by decide +kernel
theorem dX9_withdraw_40 : decode cX9_withdraw 40 = .ok (.istore_n 2, 1) := by decide +kernel
theorem dX9_withdraw_41 : decode cX9_withdraw 41 = .ok (.aload_n 0, 1) := by decide +kernel
theorem dX9_withdraw_42 : decode cX9_withdraw 42 = .ok (.getfield 7, 3) := by decide +kernel
theorem dX9_withdraw_45 : decode cX9_withdraw 45 = .ok (.sipush 411, 3) := by decide +kernel
theorem dX9_withdraw_48 : decode cX9_withdraw 48 = .ok (.dup2, 1) := by decide +kernel
theorem dX9_withdraw_49 : decode cX9_withdraw 49 = .ok (.iaload, 1) := by decide +kernel
theorem dX9_withdraw_50 : decode cX9_withdraw 50 = .ok (.iconst 1, 1) := by decide +kernel
theorem dX9_withdraw_51 : decode cX9_withdraw 51 = .ok (.isub, 1) := by decide +kernel
theorem dX9_withdraw_52 : decode cX9_withdraw 52 = .ok (.iastore, 1) := by decide +kernel
theorem dX9_withdraw_53 : decode cX9_withdraw 53 = .ok (.sipush 412, 3) := by decide +kernel
theorem dX9_withdraw_56 : decode cX9_withdraw 56 = .ok (.iload_n 1, 1) := by decide +kernel
theorem dX9_withdraw_57 : decode cX9_withdraw 57 = .ok (.iadd, 1) := by decide +kernel
theorem dX9_withdraw_58 : decode cX9_withdraw 58 = .ok (.istore_n 3, 1) := by decide +kernel
theorem dX9_withdraw_59 : decode cX9_withdraw 59 = .ok (.iload_n 3, 1) := by decide +kernel
theorem dX9_withdraw_60 : decode cX9_withdraw 60 = .ok (.sipush 412, 3) := by decide +kernel
theorem dX9_withdraw_63 : decode cX9_withdraw 63 = .ok (.aload_n 0, 1) := by decide +kernel
theorem dX9_withdraw_64 : decode cX9_withdraw 64 = .ok (.getfield 7, 3) := by decide +kernel
theorem dX9_withdraw_67 : decode cX9_withdraw 67 = .ok (.sipush 411, 3) := by decide +kernel
theorem dX9_withdraw_70 : decode cX9_withdraw 70 = .ok (.iaload, 1) := by decide +kernel
theorem dX9_withdraw_71 : decode cX9_withdraw 71 = .ok (.iadd, 1) := by decide +kernel
theorem dX9_withdraw_72 : decode cX9_withdraw 72 = .ok (.if_icmp .ge 23, 3) := by decide +kernel
theorem dX9_withdraw_75 : decode cX9_withdraw 75 = .ok (.aload_n 0, 1) := by decide +kernel
theorem dX9_withdraw_76 : decode cX9_withdraw 76 = .ok (.getfield 7, 3) := by decide +kernel
theorem dX9_withdraw_79 : decode cX9_withdraw 79 = .ok (.iload_n 3, 1) := by decide +kernel
theorem dX9_withdraw_80 : decode cX9_withdraw 80 = .ok (.aload_n 0, 1) := by decide +kernel
theorem dX9_withdraw_81 : decode cX9_withdraw 81 = .ok (.getfield 7, 3) := by decide +kernel
theorem dX9_withdraw_84 : decode cX9_withdraw 84 = .ok (.iload_n 3, 1) := by decide +kernel
theorem dX9_withdraw_85 : decode cX9_withdraw 85 = .ok (.iconst 1, 1) := by decide +kernel
theorem dX9_withdraw_86 : decode cX9_withdraw 86 = .ok (.iadd, 1) := by decide +kernel
theorem dX9_withdraw_87 : decode cX9_withdraw 87 = .ok (.iaload, 1) := by decide +kernel
theorem dX9_withdraw_88 : decode cX9_withdraw 88 = .ok (.iastore, 1) := by decide +kernel
theorem dX9_withdraw_89 : decode cX9_withdraw 89 = .ok (.iinc 3 1, 3) := by decide +kernel
theorem dX9_withdraw_92 : decode cX9_withdraw 92 = .ok (.goto (-33), 3) := by decide +kernel
theorem dX9_withdraw_95 : decode cX9_withdraw 95 = .ok (.iload_n 2, 1) := by decide +kernel
theorem dX9_withdraw_96 : decode cX9_withdraw 96 = .ok (.ireturn, 1) := by decide +kernel
set_option maxHeartbeats 4000000 in
set_option maxRecDepth 100000 in
theorem w_X9_withdraw_l59 {w : WT} {l : Launch} {p : Program} {e : Env} {s : State} {m : MethodId} {args : Array Value} {below : List Frame} {meth : Method} {c : Code} (C : KC w p s m args meth c cX9_withdraw 4 RX9 (some .int)) {v2 : Int32} {L : Lng} {Q : State → Prop} (z : Int32 × Mem) (o : (Int32 × Mem) ⊕ (Mem)) (hf : f_X9_withdraw_l59 v2 z = some o) (hA : ∀ z, o = .inl z → AtL w p l e ({ frames := 7, cells := 0, slots := 0, locals := 151 } : Room) s m args below meth c Q 4 59 z.2 L [(0, .ref (wAd w 90)), (2, .int v2), (3, .int z.1)] []) (hE : ∀ y, o = .inr y → AtL w p l e ({ frames := 7, cells := 0, slots := 0, locals := 151 } : Room) s m args below meth c Q 4 95 y L [(2, .int v2)] []) : AtL w p l e ({ frames := 7, cells := 0, slots := 0, locals := 151 } : Room) s m args below meth c Q 4 59 z.2 L [(0, .ref (wAd w 90)), (2, .int v2), (3, .int z.1)] [] := by
  intro H locs ls hP hS hl
  unfold f_X9_withdraw_l59 at hf
  refine lv_iload_n C.1 C.2.1 dX9_withdraw_59 rfl (lv_at hl 2 rfl) ?_
  refine lv_sipush (v := 412) C.1 C.2.1 dX9_withdraw_60 (by decide) ?_
  refine lv_aload_n C.1 C.2.1 dX9_withdraw_63 rfl (lv_at hl 0 rfl) ?_
  refine k_get (v := .ref (wAd w 91)) C hP (lt_Model h0_Model) (ob_Model h0_Model w L _) rfl iX9 1 (by decide) q864 rfl dX9_withdraw_64 ?_
  refine lv_sipush (v := 411) C.1 C.2.1 dX9_withdraw_67 (by decide) ?_
  obtain ⟨x10, hx10, hf⟩ := ob hf
  refine k_iald C hP (la_Model_z h0_Model) (ar_Model_z h0_Model w L _) hx10 dX9_withdraw_70 ?_
  refine lv_iadd C.1 C.2.1 dX9_withdraw_71 ?_
  refine lv_icmp_ge (tgt := 95) C.1 C.2.1 dX9_withdraw_72 (by decide) (fun c11 => ?_) (fun c11 => ?_)
  · have hf := (if_pos c11).symm.trans hf
    cases hf
    exact hE _ rfl _ _ _ hP hS (lv_sub hl [1] rfl)
  · have hf := (if_neg c11).symm.trans hf
    refine lv_aload_n C.1 C.2.1 dX9_withdraw_75 rfl (lv_at hl 0 rfl) ?_
    refine k_get (v := .ref (wAd w 91)) C hP (lt_Model h0_Model) (ob_Model h0_Model w L _) rfl iX9 1 (by decide) q864 rfl dX9_withdraw_76 ?_
    refine lv_iload_n C.1 C.2.1 dX9_withdraw_79 rfl (lv_at hl 2 rfl) ?_
    refine lv_aload_n C.1 C.2.1 dX9_withdraw_80 rfl (lv_at hl 0 rfl) ?_
    refine k_get (v := .ref (wAd w 91)) C hP (lt_Model h0_Model) (ob_Model h0_Model w L _) rfl iX9 1 (by decide) q864 rfl dX9_withdraw_81 ?_
    refine lv_iload_n C.1 C.2.1 dX9_withdraw_84 rfl (lv_at hl 2 rfl) ?_
    refine lv_iconst (v := 1) C.1 C.2.1 dX9_withdraw_85 (by decide) ?_
    refine lv_iadd C.1 C.2.1 dX9_withdraw_86 ?_
    obtain ⟨x12, hx12, hf⟩ := ob hf
    refine k_iald C hP (la_Model_z h0_Model) (ar_Model_z h0_Model w L _) hx12 dX9_withdraw_87 ?_
    obtain ⟨M13, hM13, hf⟩ := ob hf
    refine k_iast C hP hS (la_Model_z h0_Model) (ar_Model_z h0_Model w L) hM13 dX9_withdraw_88 (fun H locs hP hS => ?_)
    refine lv_iinc (v := (z.1 + 1)) (lv' := [(3, .int (z.1 + 1)), (0, .ref (wAd w 90)), (2, .int v2)]) C.1 C.2.1 dX9_withdraw_89 hl (k := 2) rfl rfl (by decide) rfl (fun ls hl => ?_)
    refine lv_goto (tgt := 59) C.1 C.2.1 dX9_withdraw_92 (by decide) ?_
    cases hf
    exact hA _ rfl _ _ _ hP hS (lv_sub hl [1, 2, 0] rfl)
set_option maxHeartbeats 4000000 in
set_option maxRecDepth 100000 in
theorem w_X9_withdraw_j14 {w : WT} {l : Launch} {p : Program} {e : Env} {s : State} {m : MethodId} {args : Array Value} {below : List Frame} {meth : Method} {c : Code} (C : KC w p s m args meth c cX9_withdraw 4 RX9 (some .int)) {v1 : Int32} {s1 : Int32} {M : Mem} {L : Lng} {out : Int32 × Mem} (hf : f_X9_withdraw_j14 v1 s1 M = some out) : AtL w p l e ({ frames := 7, cells := 0, slots := 0, locals := 151 } : Room) s m args below meth c (MQ below (QI w out.1 out.2 L) args s 0 0 (wA w)) 4 14 M L [(0, .ref (wAd w 90)), (1, .int v1)] [.int s1, .ref (wAd w 90)] := by
  intro H locs ls hP hS hl
  unfold f_X9_withdraw_j14 at hf
  obtain ⟨M3, hM3, hf⟩ := ob hf
  refine k_puti C hP hS (lt_Model h0_Model) (fun row => ob_Model h0_Model w L row) rfl iX9 tyX9 tyX9_ok nmX9 0 (by decide) q863 rfl rfl (Nat.le_of_ble_eq_true rfl) rfl hM3 dX9_withdraw_14 (fun H locs hP hS => ?_)
  refine lv_aload_n C.1 C.2.1 dX9_withdraw_17 rfl (lv_at hl 0 rfl) ?_
  refine k_get (v := .int (M3 90 0)) C hP (lt_Model h0_Model) (ob_Model h0_Model w L _) rfl iX9 0 (by decide) q863 rfl dX9_withdraw_18 ?_
  refine lv_if_le (tgt := 26) C.1 C.2.1 dX9_withdraw_21 (by decide) (fun c4 => ?_) (fun c4 => ?_)
  · have hf := (if_pos c4).symm.trans hf
    refine lv_aload_n C.1 C.2.1 dX9_withdraw_26 rfl (lv_at hl 0 rfl) ?_
    obtain ⟨r5, hr5, hf⟩ := ob hf
    refine kcv (kV (As := []) (rest := []) C hl.1 hP hS (c_X9_save w l C.2.2.2.2.2.2.2.2 (L := L) hr5) (gV q969 q971 qp24 q10 q972) hd_X9_save (lt_Model h0_Model) (ob_Model h0_Model w L _) rfl ⟨rfl, rfl⟩ ⟨Nat.le_of_ble_eq_true rfl, Nat.le_of_ble_eq_true rfl⟩ rfl rfl (Nat.le_of_ble_eq_true rfl) dX9_withdraw_27 ⟨Nat.zero_le _, Nat.zero_le _⟩) hS (fun H locs hP hS => ?_)
    refine lv_aload_n C.1 C.2.1 dX9_withdraw_30 rfl (lv_at hl 0 rfl) ?_
    obtain ⟨r6, hr6, hf⟩ := ob hf
    refine kcv (kV (As := []) (rest := []) C hl.1 hP hS (c_X9_layAll w l C.2.2.2.2.2.2.2.2 (L := L) hr6) (gV q1040 q1042 qp36 q10 q1043) hd_X9_layAll (lt_Model h0_Model) (ob_Model h0_Model w L _) rfl ⟨rfl, rfl⟩ ⟨Nat.le_of_ble_eq_true rfl, Nat.le_of_ble_eq_true rfl⟩ rfl rfl (Nat.le_of_ble_eq_true rfl) dX9_withdraw_31 ⟨Nat.zero_le _, Nat.zero_le _⟩) hS (fun H locs hP hS => ?_)
    refine lv_aload_n C.1 C.2.1 dX9_withdraw_34 rfl (lv_at hl 0 rfl) ?_
    refine k_get (v := .ref (wAd w 105)) C hP (lt_Model h0_Model) (ob_Model h0_Model w L _) rfl iX9 20 (by decide) q883 rfl dX9_withdraw_35 ?_
    refine lv_iload_n C.1 C.2.1 dX9_withdraw_38 rfl (lv_at hl 1 rfl) ?_
    obtain ⟨x7, hx7, hf⟩ := ob hf
    refine k_iald C hP (la_Model_matched h0_Model) (ar_Model_matched h0_Model w L _) hx7 dX9_withdraw_39 ?_
    refine lv_istore_n (lv' := [(2, .int x7), (0, .ref (wAd w 90)), (1, .int v1)]) C.1 C.2.1 dX9_withdraw_40 rfl hl (by decide) rfl (fun ls hl => ?_)
    refine lv_aload_n C.1 C.2.1 dX9_withdraw_41 rfl (lv_at hl 1 rfl) ?_
    refine k_get (v := .ref (wAd w 91)) C hP (lt_Model h0_Model) (ob_Model h0_Model w L _) rfl iX9 1 (by decide) q864 rfl dX9_withdraw_42 ?_
    refine lv_sipush (v := 411) C.1 C.2.1 dX9_withdraw_45 (by decide) ?_
    refine lv_dup2_11 C.1 C.2.1 dX9_withdraw_48 rfl rfl ?_
    obtain ⟨x8, hx8, hf⟩ := ob hf
    refine k_iald C hP (la_Model_z h0_Model) (ar_Model_z h0_Model w L _) hx8 dX9_withdraw_49 ?_
    refine lv_iconst (v := 1) C.1 C.2.1 dX9_withdraw_50 (by decide) ?_
    refine lv_isub C.1 C.2.1 dX9_withdraw_51 ?_
    obtain ⟨M9, hM9, hf⟩ := ob hf
    refine k_iast C hP hS (la_Model_z h0_Model) (ar_Model_z h0_Model w L) hM9 dX9_withdraw_52 (fun H locs hP hS => ?_)
    refine lv_sipush (v := 412) C.1 C.2.1 dX9_withdraw_53 (by decide) ?_
    refine lv_iload_n C.1 C.2.1 dX9_withdraw_56 rfl (lv_at hl 2 rfl) ?_
    refine lv_iadd C.1 C.2.1 dX9_withdraw_57 ?_
    refine lv_istore_n (lv' := [(3, .int (412 + v1)), (2, .int x7), (0, .ref (wAd w 90)), (1, .int v1)]) C.1 C.2.1 dX9_withdraw_58 rfl hl (by decide) rfl (fun ls hl => ?_)
    obtain ⟨o14, ho14, hf⟩ := ob hf
    refine loop_at (w_X9_withdraw_l59 C) FU _ o14 ho14 ?_ _ _ _ hP hS (lv_sub hl [2, 1, 0] rfl)
    intro H locs ls hP hS hl
    refine lv_iload_n C.1 C.2.1 dX9_withdraw_95 rfl (lv_at hl 0 rfl) ?_
    cases hf
    exact kri C hP hS dX9_withdraw_96
  · have hf := (if_neg c4).symm.trans hf
    refine lv_iconst (v := 0) C.1 C.2.1 dX9_withdraw_24 (by decide) ?_
    cases hf
    exact kri C hP hS dX9_withdraw_25
set_option maxHeartbeats 4000000 in
set_option maxRecDepth 100000 in
theorem c_X9_withdraw (w : WT) (l : Launch) (hw : WOK w) {a1 : Int32} {M : Mem} {L : Lng} {out : Int32 × Mem} (hf : f_X9_withdraw a1 M = some out) : Met l yX9_withdraw (Cond.code yX9_withdraw cX9_withdraw 4 (some .int) :: BG) ({ frames := 7, cells := 0, slots := 0, locals := 151 } : Room) (PRE w [.ref (wAd w 90), .int a1] M L) (QI w out.1 out.2 L) 0 0 (wA w) := by
  refine kEnt hw (by decide +kernel) rfl (Nat.le_of_ble_eq_true rfl) ?_
  intro p e s m args below meth c C ls hl hP
  have hS : va_S (wA w) s.heap s.heap [] := va_S.rf
  have hl : lv_has ls 4 [(0, .ref (wAd w 90)), (1, .int a1)] := hl
  unfold f_X9_withdraw at hf
  refine lv_aload_n C.1 C.2.1 dX9_withdraw_0 rfl (lv_at hl 0 rfl) ?_
  refine lv_aload_n C.1 C.2.1 dX9_withdraw_1 rfl (lv_at hl 0 rfl) ?_
  refine lv_iload_n C.1 C.2.1 dX9_withdraw_2 rfl (lv_at hl 1 rfl) ?_
  obtain ⟨r1, hr1, hf⟩ := ob hf
  refine kci (kV (As := [.int a1]) (rest := [.ref (wAd w 90)]) C hl.1 hP hS (c_X9_isComplaint w l C.2.2.2.2.2.2.2.2 (L := L) hr1) (gV q1036 q1038 qp35 q10 q1039) hd_X9_isComplaint (lt_Model h0_Model) (ob_Model h0_Model w L _) rfl ⟨rfl, rfl⟩ ⟨Nat.le_of_ble_eq_true rfl, Nat.le_of_ble_eq_true rfl⟩ rfl rfl (Nat.le_of_ble_eq_true rfl) dX9_withdraw_3 ⟨Nat.zero_le _, Nat.zero_le _⟩) hS (fun H locs hP hS => ?_)
  refine lv_if_eq (tgt := 13) C.1 C.2.1 dX9_withdraw_6 (by decide) (fun c2 => ?_) (fun c2 => ?_)
  · have hf := (if_pos c2).symm.trans hf
    refine lv_iconst (v := 1) C.1 C.2.1 dX9_withdraw_13 (by decide) ?_
    exact w_X9_withdraw_j14 C hf _ _ _ hP hS hl
  · have hf := (if_neg c2).symm.trans hf
    refine lv_iconst (v := 0) C.1 C.2.1 dX9_withdraw_9 (by decide) ?_
    refine lv_goto (tgt := 14) C.1 C.2.1 dX9_withdraw_10 (by decide) ?_
    exact w_X9_withdraw_j14 C hf _ _ _ hP hS hl
theorem dX9_append_0 : decode cX9_append 0 = .ok (.aload_n 0, 1) := by decide +kernel
theorem dX9_append_1 : decode cX9_append 1 = .ok (.iload_n 1, 1) := by decide +kernel
theorem dX9_append_2 : decode cX9_append 2 = .ok (.bipush 33, 2) := by decide +kernel
theorem dX9_append_4 : decode cX9_append 4 = .ok (.bipush 126, 2) := by decide +kernel
theorem dX9_append_6 : decode cX9_append 6 = .ok (.invokestatic 65, 3) := by decide +kernel
theorem dX9_append_9 : decode cX9_append 9 = .ok (.ifCond .ne 7, 3) := by decide +kernel
theorem dX9_append_12 : decode cX9_append 12 = .ok (.iconst 1, 1) := by decide +kernel
theorem dX9_append_13 : decode cX9_append 13 = .ok (.goto 17, 3) := by decide +kernel
theorem dX9_append_16 : decode cX9_append 16 = .ok (.aload_n 0, 1) := by decide +kernel
theorem dX9_append_17 : decode cX9_append 17 = .ok (.getfield 141, 3) := by decide +kernel
theorem dX9_append_20 : decode cX9_append 20 = .ok (.bipush 60, 2) := by decide +kernel
theorem dX9_append_22 : decode cX9_append 22 = .ok (.if_icmp .ne 7, 3) := by decide +kernel
theorem dX9_append_25 : decode cX9_append 25 = .ok (.iconst 2, 1) := by decide +kernel
theorem dX9_append_26 : decode cX9_append 26 = .ok (.goto 4, 3) := by decide +kernel
theorem dX9_append_29 : decode cX9_append 29 = .ok (.iconst 0, 1) := by decide +kernel
theorem dX9_append_30 : decode cX9_append 30 = .ok (.putfield 61, 3) := by decide +kernel
theorem dX9_append_33 : decode cX9_append 33 = .ok (.aload_n 0, 1) := by decide +kernel
theorem dX9_append_34 : decode cX9_append 34 = .ok (.getfield 61, 3) := by decide +kernel
theorem dX9_append_37 : decode cX9_append 37 = .ok (.ifCond .le 5, 3) := by decide +kernel
theorem dX9_append_40 : decode cX9_append 40 = .ok (.iconst 0, 1) := by decide +kernel
theorem dX9_append_41 : decode cX9_append 41 = .ok (.ireturn, 1) := by decide +kernel
theorem dX9_append_42 : decode cX9_append 42 = .ok (.aload_n 0, 1) := by decide +kernel
theorem dX9_append_43 : decode cX9_append 43 = .ok (.getfield 16, 3) := by decide +kernel
theorem dX9_append_46 : decode cX9_append 46 = .ok (.aload_n 0, 1) := by decide +kernel
theorem dX9_append_47 : decode cX9_append 47 = .ok (.getfield 141, 3) := by decide +kernel
theorem dX9_append_50 : decode cX9_append 50 = .ok (.iload_n 1, 1) := by decide +kernel
theorem dX9_append_51 : decode cX9_append 51 = .ok (.iastore, 1) := by decide +kernel
theorem dX9_append_52 : decode cX9_append 52 = .ok (.aload_n 0, 1) := by decide +kernel
theorem dX9_append_53 : decode cX9_append 53 = .ok (.dup, 1) := by decide +kernel
theorem dX9_append_54 : decode cX9_append 54 = .ok (.getfield 141, 3) := by decide +kernel
theorem dX9_append_57 : decode cX9_append 57 = .ok (.iconst 1, 1) := by decide +kernel
theorem dX9_append_58 : decode cX9_append 58 = .ok (.iadd, 1) := by decide +kernel
theorem dX9_append_59 : decode cX9_append 59 = .ok (.putfield 141, 3) := by decide +kernel
theorem dX9_append_62 : decode cX9_append 62 = .ok (.aload_n 0, 1) := by decide +kernel
theorem dX9_append_63 : decode cX9_append 63 = .ok (.getfield 141, 3) := by decide +kernel
theorem dX9_append_66 : decode cX9_append 66 = .ok (.ireturn, 1) := by decide +kernel
set_option maxHeartbeats 4000000 in
set_option maxRecDepth 100000 in
theorem w_X9_append_j30 {w : WT} {l : Launch} {p : Program} {e : Env} {s : State} {m : MethodId} {args : Array Value} {below : List Frame} {meth : Method} {c : Code} (C : KC w p s m args meth c cX9_append 2 RX9 (some .int)) {v1 : Int32} {s1 : Int32} {M : Mem} {L : Lng} {out : Int32 × Mem} (hf : f_X9_append_j30 v1 s1 M = some out) : AtL w p l e ({ frames := 1, cells := 0, slots := 0, locals := 22 } : Room) s m args below meth c (MQ below (QI w out.1 out.2 L) args s 0 0 (wA w)) 2 30 M L [(0, .ref (wAd w 90)), (1, .int v1)] [.int s1, .ref (wAd w 90)] := by
  intro H locs ls hP hS hl
  unfold f_X9_append_j30 at hf
  obtain ⟨M4, hM4, hf⟩ := ob hf
  refine k_puti C hP hS (lt_Model h0_Model) (fun row => ob_Model h0_Model w L row) rfl iX9 tyX9 tyX9_ok nmX9 0 (by decide) q863 rfl rfl (Nat.le_of_ble_eq_true rfl) rfl hM4 dX9_append_30 (fun H locs hP hS => ?_)
  refine lv_aload_n C.1 C.2.1 dX9_append_33 rfl (lv_at hl 0 rfl) ?_
  refine k_get (v := .int (M4 90 0)) C hP (lt_Model h0_Model) (ob_Model h0_Model w L _) rfl iX9 0 (by decide) q863 rfl dX9_append_34 ?_
  refine lv_if_le (tgt := 42) C.1 C.2.1 dX9_append_37 (by decide) (fun c5 => ?_) (fun c5 => ?_)
  · have hf := (if_pos c5).symm.trans hf
    refine lv_aload_n C.1 C.2.1 dX9_append_42 rfl (lv_at hl 0 rfl) ?_
    refine k_get (v := .ref (wAd w 93)) C hP (lt_Model h0_Model) (ob_Model h0_Model w L _) rfl iX9 5 (by decide) q868 rfl dX9_append_43 ?_
    refine lv_aload_n C.1 C.2.1 dX9_append_46 rfl (lv_at hl 0 rfl) ?_
    refine k_get (v := .int (M4 90 4)) C hP (lt_Model h0_Model) (ob_Model h0_Model w L _) rfl iX9 4 (by decide) q867 rfl dX9_append_47 ?_
    refine lv_iload_n C.1 C.2.1 dX9_append_50 rfl (lv_at hl 1 rfl) ?_
    obtain ⟨M6, hM6, hf⟩ := ob hf
    refine k_iast C hP hS (la_Model_text h0_Model) (ar_Model_text h0_Model w L) hM6 dX9_append_51 (fun H locs hP hS => ?_)
    refine lv_aload_n C.1 C.2.1 dX9_append_52 rfl (lv_at hl 0 rfl) ?_
    refine lv_dup C.1 C.2.1 dX9_append_53 rfl ?_
    refine k_get (v := .int (M6 90 4)) C hP (lt_Model h0_Model) (ob_Model h0_Model w L _) rfl iX9 4 (by decide) q867 rfl dX9_append_54 ?_
    refine lv_iconst (v := 1) C.1 C.2.1 dX9_append_57 (by decide) ?_
    refine lv_iadd C.1 C.2.1 dX9_append_58 ?_
    obtain ⟨M7, hM7, hf⟩ := ob hf
    refine k_puti C hP hS (lt_Model h0_Model) (fun row => ob_Model h0_Model w L row) rfl iX9 tyX9 tyX9_ok nmX9 4 (by decide) q867 rfl rfl (Nat.le_of_ble_eq_true rfl) rfl hM7 dX9_append_59 (fun H locs hP hS => ?_)
    refine lv_aload_n C.1 C.2.1 dX9_append_62 rfl (lv_at hl 0 rfl) ?_
    refine k_get (v := .int (M7 90 4)) C hP (lt_Model h0_Model) (ob_Model h0_Model w L _) rfl iX9 4 (by decide) q867 rfl dX9_append_63 ?_
    cases hf
    exact kri C hP hS dX9_append_66
  · have hf := (if_neg c5).symm.trans hf
    refine lv_iconst (v := 0) C.1 C.2.1 dX9_append_40 (by decide) ?_
    cases hf
    exact kri C hP hS dX9_append_41
set_option maxHeartbeats 4000000 in
set_option maxRecDepth 100000 in
theorem c_X9_append (w : WT) (l : Launch) (hw : WOK w) {a1 : Int32} {M : Mem} {L : Lng} {out : Int32 × Mem} (hf : f_X9_append a1 M = some out) : Met l yX9_append (Cond.code yX9_append cX9_append 2 (some .int) :: BG) ({ frames := 1, cells := 0, slots := 0, locals := 22 } : Room) (PRE w [.ref (wAd w 90), .int a1] M L) (QI w out.1 out.2 L) 0 0 (wA w) := by
  refine kEnt hw (by decide +kernel) rfl (Nat.le_of_ble_eq_true rfl) ?_
  intro p e s m args below meth c C ls hl hP
  have hS : va_S (wA w) s.heap s.heap [] := va_S.rf
  have hl : lv_has ls 2 [(0, .ref (wAd w 90)), (1, .int a1)] := hl
  unfold f_X9_append at hf
  refine lv_aload_n C.1 C.2.1 dX9_append_0 rfl (lv_at hl 0 rfl) ?_
  refine lv_iload_n C.1 C.2.1 dX9_append_1 rfl (lv_at hl 1 rfl) ?_
  refine lv_bipush (v := 33) C.1 C.2.1 dX9_append_2 (by decide) ?_
  refine lv_bipush (v := 126) C.1 C.2.1 dX9_append_4 (by decide) ?_
  obtain ⟨r1, hr1, hf⟩ := ob hf
  refine kci (kS (As := [.int a1, .int 33, .int 126]) (rest := [.ref (wAd w 90)]) C hl.1 hP hS (c_X9_within w l C.2.2.2.2.2.2.2.2 (L := L) hr1) (gS q963 q964 q10 q965) hd_X9_within ⟨rfl, rfl⟩ ⟨Nat.le_of_ble_eq_true rfl, Nat.le_of_ble_eq_true rfl⟩ rfl rfl (Nat.le_of_ble_eq_true rfl) dX9_append_6 ⟨Nat.zero_le _, Nat.zero_le _⟩) hS (fun H locs hP hS => ?_)
  refine lv_if_ne (tgt := 16) C.1 C.2.1 dX9_append_9 (by decide) (fun c2 => ?_) (fun c2 => ?_)
  · have hf := (if_neg c2).symm.trans hf
    refine lv_aload_n C.1 C.2.1 dX9_append_16 rfl (lv_at hl 0 rfl) ?_
    refine k_get (v := .int (M 90 4)) C hP (lt_Model h0_Model) (ob_Model h0_Model w L _) rfl iX9 4 (by decide) q867 rfl dX9_append_17 ?_
    refine lv_bipush (v := 60) C.1 C.2.1 dX9_append_20 (by decide) ?_
    refine lv_icmp_ne (tgt := 29) C.1 C.2.1 dX9_append_22 (by decide) (fun c3 => ?_) (fun c3 => ?_)
    · have hf := (if_neg c3).symm.trans hf
      refine lv_iconst (v := 0) C.1 C.2.1 dX9_append_29 (by decide) ?_
      exact w_X9_append_j30 C hf _ _ _ hP hS hl
    · have hf := (if_pos c3).symm.trans hf
      refine lv_iconst (v := 2) C.1 C.2.1 dX9_append_25 (by decide) ?_
      refine lv_goto (tgt := 30) C.1 C.2.1 dX9_append_26 (by decide) ?_
      exact w_X9_append_j30 C hf _ _ _ hP hS hl
  · have hf := (if_pos c2).symm.trans hf
    refine lv_iconst (v := 1) C.1 C.2.1 dX9_append_12 (by decide) ?_
    refine lv_goto (tgt := 30) C.1 C.2.1 dX9_append_13 (by decide) ?_
    exact w_X9_append_j30 C hf _ _ _ hP hS hl
theorem dX9_clearBuffer_0 : decode cX9_clearBuffer 0 = .ok (.aload_n 0, 1) := by decide +kernel
theorem dX9_clearBuffer_1 : decode cX9_clearBuffer 1 = .ok (.iconst 0, 1) := by decide +kernel
theorem dX9_clearBuffer_2 : decode cX9_clearBuffer 2 = .ok (.putfield 61, 3) := by decide +kernel
theorem dX9_clearBuffer_5 : decode cX9_clearBuffer 5 = .ok (.aload_n 0, 1) := by decide +kernel
theorem dX9_clearBuffer_6 : decode cX9_clearBuffer 6 = .ok (.getfield 141, 3) := by decide +kernel
theorem dX9_clearBuffer_9 : decode cX9_clearBuffer 9 = .ok (.istore_n 1, 1) := by decide +kernel
theorem dX9_clearBuffer_10 : decode cX9_clearBuffer 10 = .ok (.aload_n 0, 1) := by decide +kernel
theorem dX9_clearBuffer_11 : decode cX9_clearBuffer 11 = .ok (.iconst 0, 1) := by decide +kernel
theorem dX9_clearBuffer_12 : decode cX9_clearBuffer 12 = .ok (.putfield 141, 3) := by decide +kernel
theorem dX9_clearBuffer_15 : decode cX9_clearBuffer 15 = .ok (.iload_n 1, 1) := by decide +kernel
theorem dX9_clearBuffer_16 : decode cX9_clearBuffer 16 = .ok (.ireturn, 1) := by decide +kernel
set_option maxHeartbeats 4000000 in
set_option maxRecDepth 100000 in
theorem c_X9_clearBuffer (w : WT) (l : Launch) (hw : WOK w) {M : Mem} {L : Lng} {out : Int32 × Mem} (hf : f_X9_clearBuffer M = some out) : Met l yX9_clearBuffer (Cond.code yX9_clearBuffer cX9_clearBuffer 2 (some .int) :: BG) ({ frames := 0, cells := 0, slots := 0, locals := 0 } : Room) (PRE w [.ref (wAd w 90)] M L) (QI w out.1 out.2 L) 0 0 (wA w) := by
  refine kEnt hw (by decide +kernel) rfl (Nat.le_of_ble_eq_true rfl) ?_
  intro p e s m args below meth c C ls hl hP
  have hS : va_S (wA w) s.heap s.heap [] := va_S.rf
  have hl : lv_has ls 2 [(0, .ref (wAd w 90))] := hl
  unfold f_X9_clearBuffer at hf
  refine lv_aload_n C.1 C.2.1 dX9_clearBuffer_0 rfl (lv_at hl 0 rfl) ?_
  refine lv_iconst (v := 0) C.1 C.2.1 dX9_clearBuffer_1 (by decide) ?_
  obtain ⟨M1, hM1, hf⟩ := ob hf
  refine k_puti C hP hS (lt_Model h0_Model) (fun row => ob_Model h0_Model w L row) rfl iX9 tyX9 tyX9_ok nmX9 0 (by decide) q863 rfl rfl (Nat.le_of_ble_eq_true rfl) rfl hM1 dX9_clearBuffer_2 (fun H locs hP hS => ?_)
  refine lv_aload_n C.1 C.2.1 dX9_clearBuffer_5 rfl (lv_at hl 0 rfl) ?_
  refine k_get (v := .int (M1 90 4)) C hP (lt_Model h0_Model) (ob_Model h0_Model w L _) rfl iX9 4 (by decide) q867 rfl dX9_clearBuffer_6 ?_
  refine lv_istore_n (lv' := [(1, .int (M1 90 4)), (0, .ref (wAd w 90))]) C.1 C.2.1 dX9_clearBuffer_9 rfl hl (by decide) rfl (fun ls hl => ?_)
  refine lv_aload_n C.1 C.2.1 dX9_clearBuffer_10 rfl (lv_at hl 1 rfl) ?_
  refine lv_iconst (v := 0) C.1 C.2.1 dX9_clearBuffer_11 (by decide) ?_
  obtain ⟨M2, hM2, hf⟩ := ob hf
  refine k_puti C hP hS (lt_Model h0_Model) (fun row => ob_Model h0_Model w L row) rfl iX9 tyX9 tyX9_ok nmX9 4 (by decide) q867 rfl rfl (Nat.le_of_ble_eq_true rfl) rfl hM2 dX9_clearBuffer_12 (fun H locs hP hS => ?_)
  refine lv_iload_n C.1 C.2.1 dX9_clearBuffer_15 rfl (lv_at hl 0 rfl) ?_
  cases hf
  exact kri C hP hS dX9_clearBuffer_16
theorem dX9_beginPart_0 : decode cX9_beginPart 0 = .ok (.aload_n 0, 1) := by decide +kernel
theorem dX9_beginPart_1 : decode cX9_beginPart 1 = .ok (.iconst 0, 1) := by decide +kernel
theorem dX9_beginPart_2 : decode cX9_beginPart 2 = .ok (.putfield 144, 3) := by decide +kernel
theorem dX9_beginPart_5 : decode cX9_beginPart 5 = .ok (.aload_n 0, 1) := by decide +kernel
theorem dX9_beginPart_6 : decode cX9_beginPart 6 = .ok (.iconst 0, 1) := by decide +kernel
theorem dX9_beginPart_7 : decode cX9_beginPart 7 = .ok (.putfield 147, 3) := by decide +kernel
theorem dX9_beginPart_10 : decode cX9_beginPart 10 = .ok (.aload_n 0, 1) := by decide +kernel
theorem dX9_beginPart_11 : decode cX9_beginPart 11 = .ok (.getfield 58, 3) := by decide +kernel
theorem dX9_beginPart_14 : decode cX9_beginPart 14 = .ok (.iconst 3, 1) := by decide +kernel
theorem dX9_beginPart_15 : decode cX9_beginPart 15 = .ok (.aload_n 0, 1) := by decide +kernel
theorem dX9_beginPart_16 : decode cX9_beginPart 16 = .ok (.getfield 150, 3) := by decide +kernel
theorem dX9_beginPart_19 : decode cX9_beginPart 19 = .ok (.imul, 1) := by decide +kernel
theorem dX9_beginPart_20 : decode cX9_beginPart 20 = .ok (.iconst 0, 1) := by decide +kernel
theorem dX9_beginPart_21 : decode cX9_beginPart 21 = .ok (.iastore, 1) := by decide +kernel
theorem dX9_beginPart_22 : decode cX9_beginPart 22 = .ok (.aload_n 0, 1) := by decide +kernel
theorem dX9_beginPart_23 : decode cX9_beginPart 23 = .ok (.getfield 58, 3) := by decide +kernel
theorem dX9_beginPart_26 : decode cX9_beginPart 26 = .ok (.iconst 3, 1) := by decide +kernel
theorem dX9_beginPart_27 : decode cX9_beginPart 27 = .ok (.aload_n 0, 1) := by decide +kernel
theorem dX9_beginPart_28 : decode cX9_beginPart 28 = .ok (.getfield 150, 3) := by decide +kernel
theorem dX9_beginPart_31 : decode cX9_beginPart 31 = .ok (.imul, 1) := by decide +kernel
theorem dX9_beginPart_32 : decode cX9_beginPart 32 = .ok (.iconst 1, 1) := by decide +kernel
theorem dX9_beginPart_33 : decode cX9_beginPart 33 = .ok (.iadd, 1) := by decide +kernel
theorem dX9_beginPart_34 : decode cX9_beginPart 34 = .ok (.iconst 0, 1) := by decide +kernel
theorem dX9_beginPart_35 : decode cX9_beginPart 35 = .ok (.iastore, 1) := by decide +kernel
theorem dX9_beginPart_36 : decode cX9_beginPart 36 = .ok (.aload_n 0, 1) := by decide +kernel
theorem dX9_beginPart_37 : decode cX9_beginPart 37 = .ok (.getfield 58, 3) := by decide +kernel
theorem dX9_beginPart_40 : decode cX9_beginPart 40 = .ok (.iconst 3, 1) := by decide +kernel
theorem dX9_beginPart_41 : decode cX9_beginPart 41 = .ok (.aload_n 0, 1) := by decide +kernel
theorem dX9_beginPart_42 : decode cX9_beginPart 42 = .ok (.getfield 150, 3) := by decide +kernel
theorem dX9_beginPart_45 : decode cX9_beginPart 45 = .ok (.imul, 1) := by decide +kernel
theorem dX9_beginPart_46 : decode cX9_beginPart 46 = .ok (.iconst 2, 1) := by decide +kernel
theorem dX9_beginPart_47 : decode cX9_beginPart 47 = .ok (.iadd, 1) := by decide +kernel
theorem dX9_beginPart_48 : decode cX9_beginPart 48 = .ok (.iconst 1, 1) := by decide +kernel
theorem dX9_beginPart_49 : decode cX9_beginPart 49 = .ok (.iastore, 1) := by decide +kernel
theorem dX9_beginPart_50 : decode cX9_beginPart 50 = .ok (.return_, 1) := by decide +kernel
set_option maxHeartbeats 4000000 in
set_option maxRecDepth 100000 in
theorem c_X9_beginPart (w : WT) (l : Launch) (hw : WOK w) {M : Mem} {L : Lng} {out : Mem} (hf : f_X9_beginPart M = some out) : Met l yX9_beginPart (Cond.code yX9_beginPart cX9_beginPart 1 none :: BG) ({ frames := 0, cells := 0, slots := 0, locals := 0 } : Room) (PRE w [.ref (wAd w 90)] M L) (QV w out L) 0 0 (wA w) := by
  refine kEnt hw (by decide +kernel) rfl (Nat.le_of_ble_eq_true rfl) ?_
  intro p e s m args below meth c C ls hl hP
  have hS : va_S (wA w) s.heap s.heap [] := va_S.rf
  have hl : lv_has ls 1 [(0, .ref (wAd w 90))] := hl
  unfold f_X9_beginPart at hf
  refine lv_aload_n C.1 C.2.1 dX9_beginPart_0 rfl (lv_at hl 0 rfl) ?_
  refine lv_iconst (v := 0) C.1 C.2.1 dX9_beginPart_1 (by decide) ?_
  obtain ⟨M1, hM1, hf⟩ := ob hf
  refine k_puti C hP hS (lt_Model h0_Model) (fun row => ob_Model h0_Model w L row) rfl iX9 tyX9 tyX9_ok nmX9 22 (by decide) q885 rfl rfl (Nat.le_of_ble_eq_true rfl) rfl hM1 dX9_beginPart_2 (fun H locs hP hS => ?_)
  refine lv_aload_n C.1 C.2.1 dX9_beginPart_5 rfl (lv_at hl 0 rfl) ?_
  refine lv_iconst (v := 0) C.1 C.2.1 dX9_beginPart_6 (by decide) ?_
  obtain ⟨M2, hM2, hf⟩ := ob hf
  refine k_puti C hP hS (lt_Model h0_Model) (fun row => ob_Model h0_Model w L row) rfl iX9 tyX9 tyX9_ok nmX9 23 (by decide) q886 rfl rfl (Nat.le_of_ble_eq_true rfl) rfl hM2 dX9_beginPart_7 (fun H locs hP hS => ?_)
  refine lv_aload_n C.1 C.2.1 dX9_beginPart_10 rfl (lv_at hl 0 rfl) ?_
  refine k_get (v := .ref (wAd w 107)) C hP (lt_Model h0_Model) (ob_Model h0_Model w L _) rfl iX9 26 (by decide) q889 rfl dX9_beginPart_11 ?_
  refine lv_iconst (v := 3) C.1 C.2.1 dX9_beginPart_14 (by decide) ?_
  refine lv_aload_n C.1 C.2.1 dX9_beginPart_15 rfl (lv_at hl 0 rfl) ?_
  refine k_get (v := .int (M2 90 24)) C hP (lt_Model h0_Model) (ob_Model h0_Model w L _) rfl iX9 24 (by decide) q887 rfl dX9_beginPart_16 ?_
  refine lv_imul C.1 C.2.1 dX9_beginPart_19 ?_
  refine lv_iconst (v := 0) C.1 C.2.1 dX9_beginPart_20 (by decide) ?_
  obtain ⟨M3, hM3, hf⟩ := ob hf
  refine k_iast C hP hS (la_Model_read h0_Model) (ar_Model_read h0_Model w L) hM3 dX9_beginPart_21 (fun H locs hP hS => ?_)
  refine lv_aload_n C.1 C.2.1 dX9_beginPart_22 rfl (lv_at hl 0 rfl) ?_
  refine k_get (v := .ref (wAd w 107)) C hP (lt_Model h0_Model) (ob_Model h0_Model w L _) rfl iX9 26 (by decide) q889 rfl dX9_beginPart_23 ?_
  refine lv_iconst (v := 3) C.1 C.2.1 dX9_beginPart_26 (by decide) ?_
  refine lv_aload_n C.1 C.2.1 dX9_beginPart_27 rfl (lv_at hl 0 rfl) ?_
  refine k_get (v := .int (M3 90 24)) C hP (lt_Model h0_Model) (ob_Model h0_Model w L _) rfl iX9 24 (by decide) q887 rfl dX9_beginPart_28 ?_
  refine lv_imul C.1 C.2.1 dX9_beginPart_31 ?_
  refine lv_iconst (v := 1) C.1 C.2.1 dX9_beginPart_32 (by decide) ?_
  refine lv_iadd C.1 C.2.1 dX9_beginPart_33 ?_
  refine lv_iconst (v := 0) C.1 C.2.1 dX9_beginPart_34 (by decide) ?_
  obtain ⟨M4, hM4, hf⟩ := ob hf
  refine k_iast C hP hS (la_Model_read h0_Model) (ar_Model_read h0_Model w L) hM4 dX9_beginPart_35 (fun H locs hP hS => ?_)
  refine lv_aload_n C.1 C.2.1 dX9_beginPart_36 rfl (lv_at hl 0 rfl) ?_
  refine k_get (v := .ref (wAd w 107)) C hP (lt_Model h0_Model) (ob_Model h0_Model w L _) rfl iX9 26 (by decide) q889 rfl dX9_beginPart_37 ?_
  refine lv_iconst (v := 3) C.1 C.2.1 dX9_beginPart_40 (by decide) ?_
  refine lv_aload_n C.1 C.2.1 dX9_beginPart_41 rfl (lv_at hl 0 rfl) ?_
  refine k_get (v := .int (M4 90 24)) C hP (lt_Model h0_Model) (ob_Model h0_Model w L _) rfl iX9 24 (by decide) q887 rfl dX9_beginPart_42 ?_
  refine lv_imul C.1 C.2.1 dX9_beginPart_45 ?_
  refine lv_iconst (v := 2) C.1 C.2.1 dX9_beginPart_46 (by decide) ?_
  refine lv_iadd C.1 C.2.1 dX9_beginPart_47 ?_
  refine lv_iconst (v := 1) C.1 C.2.1 dX9_beginPart_48 (by decide) ?_
  obtain ⟨M5, hM5, hf⟩ := ob hf
  refine k_iast C hP hS (la_Model_read h0_Model) (ar_Model_read h0_Model w L) hM5 dX9_beginPart_49 (fun H locs hP hS => ?_)
  cases hf
  exact krv C hP hS dX9_beginPart_50
theorem dX9_takesDigit_0 : decode cX9_takesDigit 0 = .ok (.iconst 3, 1) := by decide +kernel
theorem dX9_takesDigit_1 : decode cX9_takesDigit 1 = .ok (.aload_n 0, 1) := by decide +kernel
theorem dX9_takesDigit_2 : decode cX9_takesDigit 2 = .ok (.getfield 150, 3) := by decide +kernel
theorem dX9_takesDigit_5 : decode cX9_takesDigit 5 = .ok (.imul, 1) := by decide +kernel
theorem dX9_takesDigit_6 : decode cX9_takesDigit 6 = .ok (.aload_n 0, 1) := by decide +kernel
theorem dX9_takesDigit_7 : decode cX9_takesDigit 7 = .ok (.getfield 144, 3) := by decide +kernel
theorem dX9_takesDigit_10 : decode cX9_takesDigit 10 = .ok (.iadd, 1) := by decide +kernel
theorem dX9_takesDigit_11 : decode cX9_takesDigit 11 = .ok (.istore_n 2, 1) := by decide +kernel
theorem dX9_takesDigit_12 : decode cX9_takesDigit 12 = .ok (.aload_n 0, 1) := by decide +kernel
theorem dX9_takesDigit_13 : decode cX9_takesDigit 13 = .ok (.getfield 144, 3) := by decide +kernel
theorem dX9_takesDigit_16 : decode cX9_takesDigit 16 = .ok (.ifCond .ne 9, 3) := by decide +kernel
theorem dX9_takesDigit_19 : decode cX9_takesDigit 19 = .ok (.sipush 140, 3) := by decide +kernel
theorem dX9_takesDigit_22 : decode cX9_takesDigit 22 = .ok (.goto 18, 3) := by decide +kernel
theorem dX9_takesDigit_25 : decode cX9_takesDigit 25 = .ok (.aload_n 0, 1) := by decide +kernel
theorem dX9_takesDigit_26 : decode cX9_takesDigit 26 = .ok (.getfield 144, 3) := by decide +kernel
theorem dX9_takesDigit_29 : decode cX9_takesDigit 29 = .ok (.iconst 1, 1) := by decide +kernel
theorem dX9_takesDigit_30 : decode cX9_takesDigit 30 = .ok (.if_icmp .ne 8, 3) := by decide +kernel
theorem dX9_takesDigit_33 : decode cX9_takesDigit 33 = .ok (.bipush 40, 2) := by decide +kernel
theorem dX9_takesDigit_35 : decode cX9_takesDigit 35 = .ok (.goto 5, 3) := by decide +kernel
theorem dX9_takesDigit_38 : decode cX9_takesDigit 38 = .ok (.bipush 60, 2) := by decide +kernel
theorem dX9_takesDigit_40 : decode cX9_takesDigit 40 = .ok (.istore_n 3, 1) := by decide +kernel
theorem dX9_takesDigit_41 : decode cX9_takesDigit 41 = .ok (.aload_n 0, 1) := by decide +kernel
theorem dX9_takesDigit_42 : decode cX9_takesDigit 42 = .ok (.getfield 147, 3) := by decide +kernel
theorem dX9_takesDigit_45 : decode cX9_takesDigit 45 = .ok (.ifCond .ne 7, 3) := by decide +kernel
theorem dX9_takesDigit_48 : decode cX9_takesDigit 48 = .ok (.iload_n 1, 1) := by decide +kernel
theorem dX9_takesDigit_49 : decode cX9_takesDigit 49 = .ok (.goto 14, 3) := by decide +kernel
theorem dX9_takesDigit_52 : decode cX9_takesDigit 52 = .ok (.bipush 10, 2) := by decide +kernel
theorem dX9_takesDigit_54 : decode cX9_takesDigit 54 = .ok (.aload_n 0, 1) := by decide +kernel
theorem dX9_takesDigit_55 : decode cX9_takesDigit 55 = .ok (.getfield 58, 3) := by decide +kernel
theorem dX9_takesDigit_58 : decode cX9_takesDigit 58 = .ok (.iload_n 2, 1) := by decide +kernel
theorem dX9_takesDigit_59 : decode cX9_takesDigit 59 = .ok (.iaload, 1) := by decide +kernel
theorem dX9_takesDigit_60 : decode cX9_takesDigit 60 = .ok (.imul, 1) := by decide +kernel
theorem dX9_takesDigit_61 : decode cX9_takesDigit 61 = .ok (.iload_n 1, 1) := by decide +kernel
theorem dX9_takesDigit_62 : decode cX9_takesDigit 62 = .ok (.iadd, 1) := by decide +kernel
theorem dX9_takesDigit_63 : decode cX9_takesDigit 63 = .ok (.istore 4, 2) := by decide +kernel
theorem dX9_takesDigit_65 : decode cX9_takesDigit 65 = .ok (.iload 4, 2) := by decide +kernel
theorem dX9_takesDigit_67 : decode cX9_takesDigit 67 = .ok (.iload_n 3, 1) := by decide +kernel
theorem dX9_takesDigit_68 : decode cX9_takesDigit 68 = .ok (.if_icmp .gt 38, 3) := by decide +kernel
theorem dX9_takesDigit_71 : decode cX9_takesDigit 71 = .ok (.aload_n 0, 1) := by decide +kernel
theorem dX9_takesDigit_72 : decode cX9_takesDigit 72 = .ok (.getfield 147, 3) := by decide +kernel
theorem dX9_takesDigit_75 : decode cX9_takesDigit 75 = .ok (.ifCond .ne 18, 3) := by decide +kernel
theorem dX9_takesDigit_78 : decode cX9_takesDigit 78 = .ok (.aload_n 0, 1) := by decide +kernel
theorem dX9_takesDigit_79 : decode cX9_takesDigit 79 = .ok (.getfield 144, 3) := by decide +kernel
theorem dX9_takesDigit_82 : decode cX9_takesDigit 82 = .ok (.iconst 2, 1) := by decide +kernel
theorem dX9_takesDigit_83 : decode cX9_takesDigit 83 = .ok (.if_icmp .lt 19, 3) := by decide +kernel
theorem dX9_takesDigit_86 : decode cX9_takesDigit 86 = .ok (.iload_n 1, 1) := by decide +kernel
theorem dX9_takesDigit_87 : decode cX9_takesDigit 87 = .ok (.ifCond .le 19, 3) := by decide +kernel
theorem dX9_takesDigit_90 : decode cX9_takesDigit 90 = .ok (.goto 12, 3) := by decide +kernel
theorem dX9_takesDigit_93 : decode cX9_takesDigit 93 = .ok (.aload_n 0, 1) := by decide +kernel
theorem dX9_takesDigit_94 : decode cX9_takesDigit 94 = .ok (.getfield 58, 3) := by decide +kernel
theorem dX9_takesDigit_97 : decode cX9_takesDigit 97 = .ok (.iload_n 2, 1) := by decide +kernel
theorem dX9_takesDigit_98 : decode cX9_takesDigit 98 = .ok (.iaload, 1) := by decide +kernel
theorem dX9_takesDigit_99 : decode cX9_takesDigit 99 = .ok (.ifCond .le 7, 3) := by decide +kernel
theorem dX9_takesDigit_102 : decode cX9_takesDigit 102 = .ok (.iconst 1, 1) := by decide +kernel
theorem dX9_takesDigit_103 : decode cX9_takesDigit 103 = .ok (.goto 4, 3) := by decide +kernel
theorem dX9_takesDigit_106 : decode cX9_takesDigit 106 = .ok (.iconst 0, 1) := by decide +kernel
theorem dX9_takesDigit_107 : decode cX9_takesDigit 107 = .ok (.istore 5, 2) := by decide +kernel
theorem dX9_takesDigit_109 : decode cX9_takesDigit 109 = .ok (.aload_n 0, 1) := by decide +kernel
theorem dX9_takesDigit_110 : decode cX9_takesDigit 110 = .ok (.getfield 58, 3) := by decide +kernel
theorem dX9_takesDigit_113 : decode cX9_takesDigit 113 = .ok (.iload_n 2, 1) := by decide +kernel
theorem dX9_takesDigit_114 : decode cX9_takesDigit 114 = .ok (.iload 5, 2) := by decide +kernel
theorem dX9_takesDigit_116 : decode cX9_takesDigit 116 = .ok (.ifCond .eq 8, 3) := by decide +kernel
theorem dX9_takesDigit_119 : decode cX9_takesDigit 119 = .ok (.iload 4, 2) := by decide +kernel
theorem dX9_takesDigit_121 : decode cX9_takesDigit 121 = .ok (.goto 9, 3) := by decide +kernel
theorem dX9_takesDigit_124 : decode cX9_takesDigit 124 = .ok (.aload_n 0, 1) := by decide +kernel
theorem dX9_takesDigit_125 : decode cX9_takesDigit 125 = .ok (.getfield 58, 3) := by decide +kernel
theorem dX9_takesDigit_128 : decode cX9_takesDigit 128 = .ok (.iload_n 2, 1) := by decide +kernel
theorem dX9_takesDigit_129 : decode cX9_takesDigit 129 = .ok (.iaload, 1) := by decide +kernel
theorem dX9_takesDigit_130 : decode cX9_takesDigit 130 = .ok (.iastore, 1) := by decide +kernel
theorem dX9_takesDigit_131 : decode cX9_takesDigit 131 = .ok (.aload_n 0, 1) := by decide +kernel
theorem dX9_takesDigit_132 : decode cX9_takesDigit 132 = .ok (.dup, 1) := by decide +kernel
theorem dX9_takesDigit_133 : decode cX9_takesDigit 133 = .ok (.getfield 147, 3) := by decide +kernel
theorem dX9_takesDigit_136 : decode cX9_takesDigit 136 = .ok (.iload 5, 2) := by decide +kernel
theorem dX9_takesDigit_138 : decode cX9_takesDigit 138 = .ok (.ifCond .eq 7, 3) := by decide +kernel
theorem dX9_takesDigit_141 : decode cX9_takesDigit 141 = .ok (.iconst 1, 1) := by decide +kernel
theorem dX9_takesDigit_142 : decode cX9_takesDigit 142 = .ok (.goto 4, 3) := by decide +kernel
theorem dX9_takesDigit_145 : decode cX9_takesDigit 145 = .ok (.iconst 0, 1) := by decide +kernel
theorem dX9_takesDigit_146 : decode cX9_takesDigit 146 = .ok (.iadd, 1) := by decide +kernel
theorem dX9_takesDigit_147 : decode cX9_takesDigit 147 = .ok (.putfield 147, 3) := by decide +kernel
theorem dX9_takesDigit_150 : decode cX9_takesDigit 150 = .ok (.iload 5, 2) := by decide +kernel
theorem dX9_takesDigit_152 : decode cX9_takesDigit 152 = .ok (.ireturn, 1) := by decide +kernel
set_option maxHeartbeats 4000000 in
set_option maxRecDepth 100000 in
theorem w_X9_takesDigit_j146 {w : WT} {l : Launch} {p : Program} {e : Env} {s : State} {m : MethodId} {args : Array Value} {below : List Frame} {meth : Method} {c : Code} (C : KC w p s m args meth c cX9_takesDigit 6 RX9 (some .boolean)) {v5 : Int32} {s1 : Int32} {s2 : Int32} {M : Mem} {L : Lng} {out : Int32 × Mem} (hf : f_X9_takesDigit_j146 v5 s1 s2 M = some out) : AtL w p l e ({ frames := 0, cells := 0, slots := 0, locals := 0 } : Room) s m args below meth c (MQ below (QI w out.1 out.2 L) args s 0 0 (wA w)) 6 146 M L [(5, .int v5)] [.int s2, .int s1, .ref (wAd w 90)] := by
  intro H locs ls hP hS hl
  unfold f_X9_takesDigit_j146 at hf
  refine lv_iadd C.1 C.2.1 dX9_takesDigit_146 ?_
  obtain ⟨M10, hM10, hf⟩ := ob hf
  refine k_puti C hP hS (lt_Model h0_Model) (fun row => ob_Model h0_Model w L row) rfl iX9 tyX9 tyX9_ok nmX9 23 (by decide) q886 rfl rfl (Nat.le_of_ble_eq_true rfl) rfl hM10 dX9_takesDigit_147 (fun H locs hP hS => ?_)
  refine lv_iload C.1 C.2.1 dX9_takesDigit_150 (lv_at hl 0 rfl) ?_
  obtain ⟨x11, hx11, hf⟩ := ob hf
  cases hf
  exact krz C hP hS hx11 dX9_takesDigit_152
set_option maxHeartbeats 4000000 in
set_option maxRecDepth 100000 in
theorem w_X9_takesDigit_j130 {w : WT} {l : Launch} {p : Program} {e : Env} {s : State} {m : MethodId} {args : Array Value} {below : List Frame} {meth : Method} {c : Code} (C : KC w p s m args meth c cX9_takesDigit 6 RX9 (some .boolean)) {v5 : Int32} {s1 : Int32} {s2 : Int32} {M : Mem} {L : Lng} {out : Int32 × Mem} (hf : f_X9_takesDigit_j130 v5 s1 s2 M = some out) : AtL w p l e ({ frames := 0, cells := 0, slots := 0, locals := 0 } : Room) s m args below meth c (MQ below (QI w out.1 out.2 L) args s 0 0 (wA w)) 6 130 M L [(0, .ref (wAd w 90)), (5, .int v5)] [.int s2, .int s1, .ref (wAd w 107)] := by
  intro H locs ls hP hS hl
  unfold f_X9_takesDigit_j130 at hf
  obtain ⟨M8, hM8, hf⟩ := ob hf
  refine k_iast C hP hS (la_Model_read h0_Model) (ar_Model_read h0_Model w L) hM8 dX9_takesDigit_130 (fun H locs hP hS => ?_)
  refine lv_aload_n C.1 C.2.1 dX9_takesDigit_131 rfl (lv_at hl 0 rfl) ?_
  refine lv_dup C.1 C.2.1 dX9_takesDigit_132 rfl ?_
  refine k_get (v := .int (M8 90 23)) C hP (lt_Model h0_Model) (ob_Model h0_Model w L _) rfl iX9 23 (by decide) q886 rfl dX9_takesDigit_133 ?_
  refine lv_iload C.1 C.2.1 dX9_takesDigit_136 (lv_at hl 1 rfl) ?_
  refine lv_if_eq (tgt := 145) C.1 C.2.1 dX9_takesDigit_138 (by decide) (fun c9 => ?_) (fun c9 => ?_)
  · have hf := (if_pos c9).symm.trans hf
    refine lv_iconst (v := 0) C.1 C.2.1 dX9_takesDigit_145 (by decide) ?_
    exact w_X9_takesDigit_j146 C hf _ _ _ hP hS (lv_sub hl [1] rfl)
  · have hf := (if_neg c9).symm.trans hf
    refine lv_iconst (v := 1) C.1 C.2.1 dX9_takesDigit_141 (by decide) ?_
    refine lv_goto (tgt := 146) C.1 C.2.1 dX9_takesDigit_142 (by decide) ?_
    exact w_X9_takesDigit_j146 C hf _ _ _ hP hS (lv_sub hl [1] rfl)
set_option maxHeartbeats 4000000 in
set_option maxRecDepth 100000 in
theorem w_X9_takesDigit_j107 {w : WT} {l : Launch} {p : Program} {e : Env} {s : State} {m : MethodId} {args : Array Value} {below : List Frame} {meth : Method} {c : Code} (C : KC w p s m args meth c cX9_takesDigit 6 RX9 (some .boolean)) {v2 : Int32} {v4 : Int32} {s0 : Int32} {M : Mem} {L : Lng} {out : Int32 × Mem} (hf : f_X9_takesDigit_j107 v2 v4 s0 M = some out) : AtL w p l e ({ frames := 0, cells := 0, slots := 0, locals := 0 } : Room) s m args below meth c (MQ below (QI w out.1 out.2 L) args s 0 0 (wA w)) 6 107 M L [(0, .ref (wAd w 90)), (2, .int v2), (4, .int v4)] [.int s0] := by
  intro H locs ls hP hS hl
  unfold f_X9_takesDigit_j107 at hf
  refine lv_istore (lv' := [(5, .int s0), (0, .ref (wAd w 90)), (2, .int v2), (4, .int v4)]) C.1 C.2.1 dX9_takesDigit_107 hl (by decide) rfl (fun ls hl => ?_)
  refine lv_aload_n C.1 C.2.1 dX9_takesDigit_109 rfl (lv_at hl 1 rfl) ?_
  refine k_get (v := .ref (wAd w 107)) C hP (lt_Model h0_Model) (ob_Model h0_Model w L _) rfl iX9 26 (by decide) q889 rfl dX9_takesDigit_110 ?_
  refine lv_iload_n C.1 C.2.1 dX9_takesDigit_113 rfl (lv_at hl 2 rfl) ?_
  refine lv_iload C.1 C.2.1 dX9_takesDigit_114 (lv_at hl 0 rfl) ?_
  refine lv_if_eq (tgt := 124) C.1 C.2.1 dX9_takesDigit_116 (by decide) (fun c6 => ?_) (fun c6 => ?_)
  · have hf := (if_pos c6).symm.trans hf
    refine lv_aload_n C.1 C.2.1 dX9_takesDigit_124 rfl (lv_at hl 1 rfl) ?_
    refine k_get (v := .ref (wAd w 107)) C hP (lt_Model h0_Model) (ob_Model h0_Model w L _) rfl iX9 26 (by decide) q889 rfl dX9_takesDigit_125 ?_
    refine lv_iload_n C.1 C.2.1 dX9_takesDigit_128 rfl (lv_at hl 2 rfl) ?_
    obtain ⟨x7, hx7, hf⟩ := ob hf
    refine k_iald C hP (la_Model_read h0_Model) (ar_Model_read h0_Model w L _) hx7 dX9_takesDigit_129 ?_
    exact w_X9_takesDigit_j130 C hf _ _ _ hP hS (lv_sub hl [1, 0] rfl)
  · have hf := (if_neg c6).symm.trans hf
    refine lv_iload C.1 C.2.1 dX9_takesDigit_119 (lv_at hl 3 rfl) ?_
    refine lv_goto (tgt := 130) C.1 C.2.1 dX9_takesDigit_121 (by decide) ?_
    exact w_X9_takesDigit_j130 C hf _ _ _ hP hS (lv_sub hl [1, 0] rfl)
set_option maxHeartbeats 4000000 in
set_option maxRecDepth 100000 in
theorem w_X9_takesDigit_j106 {w : WT} {l : Launch} {p : Program} {e : Env} {s : State} {m : MethodId} {args : Array Value} {below : List Frame} {meth : Method} {c : Code} (C : KC w p s m args meth c cX9_takesDigit 6 RX9 (some .boolean)) {v2 : Int32} {v4 : Int32} {M : Mem} {L : Lng} {out : Int32 × Mem} (hf : f_X9_takesDigit_j106 v2 v4 M = some out) : AtL w p l e ({ frames := 0, cells := 0, slots := 0, locals := 0 } : Room) s m args below meth c (MQ below (QI w out.1 out.2 L) args s 0 0 (wA w)) 6 106 M L [(0, .ref (wAd w 90)), (2, .int v2), (4, .int v4)] [] := by
  intro H locs ls hP hS hl
  unfold f_X9_takesDigit_j106 at hf
  refine lv_iconst (v := 0) C.1 C.2.1 dX9_takesDigit_106 (by decide) ?_
  exact w_X9_takesDigit_j107 C hf _ _ _ hP hS hl
set_option maxHeartbeats 4000000 in
set_option maxRecDepth 100000 in
theorem w_X9_takesDigit_j102 {w : WT} {l : Launch} {p : Program} {e : Env} {s : State} {m : MethodId} {args : Array Value} {below : List Frame} {meth : Method} {c : Code} (C : KC w p s m args meth c cX9_takesDigit 6 RX9 (some .boolean)) {v2 : Int32} {v4 : Int32} {M : Mem} {L : Lng} {out : Int32 × Mem} (hf : f_X9_takesDigit_j102 v2 v4 M = some out) : AtL w p l e ({ frames := 0, cells := 0, slots := 0, locals := 0 } : Room) s m args below meth c (MQ below (QI w out.1 out.2 L) args s 0 0 (wA w)) 6 102 M L [(0, .ref (wAd w 90)), (2, .int v2), (4, .int v4)] [] := by
  intro H locs ls hP hS hl
  unfold f_X9_takesDigit_j102 at hf
  refine lv_iconst (v := 1) C.1 C.2.1 dX9_takesDigit_102 (by decide) ?_
  refine lv_goto (tgt := 107) C.1 C.2.1 dX9_takesDigit_103 (by decide) ?_
  exact w_X9_takesDigit_j107 C hf _ _ _ hP hS hl
set_option maxHeartbeats 4000000 in
set_option maxRecDepth 100000 in
theorem w_X9_takesDigit_j63 {w : WT} {l : Launch} {p : Program} {e : Env} {s : State} {m : MethodId} {args : Array Value} {below : List Frame} {meth : Method} {c : Code} (C : KC w p s m args meth c cX9_takesDigit 6 RX9 (some .boolean)) {v1 : Int32} {v2 : Int32} {v3 : Int32} {s0 : Int32} {M : Mem} {L : Lng} {out : Int32 × Mem} (hf : f_X9_takesDigit_j63 v1 v2 v3 s0 M = some out) : AtL w p l e ({ frames := 0, cells := 0, slots := 0, locals := 0 } : Room) s m args below meth c (MQ below (QI w out.1 out.2 L) args s 0 0 (wA w)) 6 63 M L [(0, .ref (wAd w 90)), (1, .int v1), (2, .int v2), (3, .int v3)] [.int s0] := by
  intro H locs ls hP hS hl
  unfold f_X9_takesDigit_j63 at hf
  refine lv_istore (lv' := [(4, .int s0), (0, .ref (wAd w 90)), (1, .int v1), (2, .int v2), (3, .int v3)]) C.1 C.2.1 dX9_takesDigit_63 hl (by decide) rfl (fun ls hl => ?_)
  refine lv_iload C.1 C.2.1 dX9_takesDigit_65 (lv_at hl 0 rfl) ?_
  refine lv_iload_n C.1 C.2.1 dX9_takesDigit_67 rfl (lv_at hl 4 rfl) ?_
  refine lv_icmp_gt (tgt := 106) C.1 C.2.1 dX9_takesDigit_68 (by decide) (fun c5 => ?_) (fun c5 => ?_)
  · have hf := (if_pos c5).symm.trans hf
    exact w_X9_takesDigit_j106 C hf _ _ _ hP hS (lv_sub hl [1, 3, 0] rfl)
  · have hf := (if_neg c5).symm.trans hf
    refine lv_aload_n C.1 C.2.1 dX9_takesDigit_71 rfl (lv_at hl 1 rfl) ?_
    refine k_get (v := .int (M 90 23)) C hP (lt_Model h0_Model) (ob_Model h0_Model w L _) rfl iX9 23 (by decide) q886 rfl dX9_takesDigit_72 ?_
    refine lv_if_ne (tgt := 93) C.1 C.2.1 dX9_takesDigit_75 (by decide) (fun c12 => ?_) (fun c12 => ?_)
    · have hf := (if_neg c12).symm.trans hf
      refine lv_aload_n C.1 C.2.1 dX9_takesDigit_93 rfl (lv_at hl 1 rfl) ?_
      refine k_get (v := .ref (wAd w 107)) C hP (lt_Model h0_Model) (ob_Model h0_Model w L _) rfl iX9 26 (by decide) q889 rfl dX9_takesDigit_94 ?_
      refine lv_iload_n C.1 C.2.1 dX9_takesDigit_97 rfl (lv_at hl 3 rfl) ?_
      obtain ⟨x13, hx13, hf⟩ := ob hf
      refine k_iald C hP (la_Model_read h0_Model) (ar_Model_read h0_Model w L _) hx13 dX9_takesDigit_98 ?_
      refine lv_if_le (tgt := 106) C.1 C.2.1 dX9_takesDigit_99 (by decide) (fun c14 => ?_) (fun c14 => ?_)
      · have hf := (if_pos c14).symm.trans hf
        exact w_X9_takesDigit_j106 C hf _ _ _ hP hS (lv_sub hl [1, 3, 0] rfl)
      · have hf := (if_neg c14).symm.trans hf
        exact w_X9_takesDigit_j102 C hf _ _ _ hP hS (lv_sub hl [1, 3, 0] rfl)
    · have hf := (if_pos c12).symm.trans hf
      refine lv_aload_n C.1 C.2.1 dX9_takesDigit_78 rfl (lv_at hl 1 rfl) ?_
      refine k_get (v := .int (M 90 22)) C hP (lt_Model h0_Model) (ob_Model h0_Model w L _) rfl iX9 22 (by decide) q885 rfl dX9_takesDigit_79 ?_
      refine lv_iconst (v := 2) C.1 C.2.1 dX9_takesDigit_82 (by decide) ?_
      refine lv_icmp_lt (tgt := 102) C.1 C.2.1 dX9_takesDigit_83 (by decide) (fun c15 => ?_) (fun c15 => ?_)
      · have hf := (if_pos c15).symm.trans hf
        exact w_X9_takesDigit_j102 C hf _ _ _ hP hS (lv_sub hl [1, 3, 0] rfl)
      · have hf := (if_neg c15).symm.trans hf
        refine lv_iload_n C.1 C.2.1 dX9_takesDigit_86 rfl (lv_at hl 2 rfl) ?_
        refine lv_if_le (tgt := 106) C.1 C.2.1 dX9_takesDigit_87 (by decide) (fun c16 => ?_) (fun c16 => ?_)
        · have hf := (if_pos c16).symm.trans hf
          exact w_X9_takesDigit_j106 C hf _ _ _ hP hS (lv_sub hl [1, 3, 0] rfl)
        · have hf := (if_neg c16).symm.trans hf
          refine lv_goto (tgt := 102) C.1 C.2.1 dX9_takesDigit_90 (by decide) ?_
          exact w_X9_takesDigit_j102 C hf _ _ _ hP hS (lv_sub hl [1, 3, 0] rfl)
set_option maxHeartbeats 4000000 in
set_option maxRecDepth 100000 in
theorem w_X9_takesDigit_j40 {w : WT} {l : Launch} {p : Program} {e : Env} {s : State} {m : MethodId} {args : Array Value} {below : List Frame} {meth : Method} {c : Code} (C : KC w p s m args meth c cX9_takesDigit 6 RX9 (some .boolean)) {v1 : Int32} {v2 : Int32} {s0 : Int32} {M : Mem} {L : Lng} {out : Int32 × Mem} (hf : f_X9_takesDigit_j40 v1 v2 s0 M = some out) : AtL w p l e ({ frames := 0, cells := 0, slots := 0, locals := 0 } : Room) s m args below meth c (MQ below (QI w out.1 out.2 L) args s 0 0 (wA w)) 6 40 M L [(0, .ref (wAd w 90)), (1, .int v1), (2, .int v2)] [.int s0] := by
  intro H locs ls hP hS hl
  unfold f_X9_takesDigit_j40 at hf
  refine lv_istore_n (lv' := [(3, .int s0), (0, .ref (wAd w 90)), (1, .int v1), (2, .int v2)]) C.1 C.2.1 dX9_takesDigit_40 rfl hl (by decide) rfl (fun ls hl => ?_)
  refine lv_aload_n C.1 C.2.1 dX9_takesDigit_41 rfl (lv_at hl 1 rfl) ?_
  refine k_get (v := .int (M 90 23)) C hP (lt_Model h0_Model) (ob_Model h0_Model w L _) rfl iX9 23 (by decide) q886 rfl dX9_takesDigit_42 ?_
  refine lv_if_ne (tgt := 52) C.1 C.2.1 dX9_takesDigit_45 (by decide) (fun c3 => ?_) (fun c3 => ?_)
  · have hf := (if_neg c3).symm.trans hf
    refine lv_bipush (v := 10) C.1 C.2.1 dX9_takesDigit_52 (by decide) ?_
    refine lv_aload_n C.1 C.2.1 dX9_takesDigit_54 rfl (lv_at hl 1 rfl) ?_
    refine k_get (v := .ref (wAd w 107)) C hP (lt_Model h0_Model) (ob_Model h0_Model w L _) rfl iX9 26 (by decide) q889 rfl dX9_takesDigit_55 ?_
    refine lv_iload_n C.1 C.2.1 dX9_takesDigit_58 rfl (lv_at hl 3 rfl) ?_
    obtain ⟨x4, hx4, hf⟩ := ob hf
    refine k_iald C hP (la_Model_read h0_Model) (ar_Model_read h0_Model w L _) hx4 dX9_takesDigit_59 ?_
    refine lv_imul C.1 C.2.1 dX9_takesDigit_60 ?_
    refine lv_iload_n C.1 C.2.1 dX9_takesDigit_61 rfl (lv_at hl 2 rfl) ?_
    refine lv_iadd C.1 C.2.1 dX9_takesDigit_62 ?_
    exact w_X9_takesDigit_j63 C hf _ _ _ hP hS (lv_sub hl [1, 2, 3, 0] rfl)
  · have hf := (if_pos c3).symm.trans hf
    refine lv_iload_n C.1 C.2.1 dX9_takesDigit_48 rfl (lv_at hl 2 rfl) ?_
    refine lv_goto (tgt := 63) C.1 C.2.1 dX9_takesDigit_49 (by decide) ?_
    exact w_X9_takesDigit_j63 C hf _ _ _ hP hS (lv_sub hl [1, 2, 3, 0] rfl)
set_option maxHeartbeats 4000000 in
set_option maxRecDepth 100000 in
theorem c_X9_takesDigit (w : WT) (l : Launch) (hw : WOK w) {a1 : Int32} {M : Mem} {L : Lng} {out : Int32 × Mem} (hf : f_X9_takesDigit a1 M = some out) : Met l yX9_takesDigit (Cond.code yX9_takesDigit cX9_takesDigit 6 (some .boolean) :: BG) ({ frames := 0, cells := 0, slots := 0, locals := 0 } : Room) (PRE w [.ref (wAd w 90), .int a1] M L) (QI w out.1 out.2 L) 0 0 (wA w) := by
  refine kEnt hw (by decide +kernel) rfl (Nat.le_of_ble_eq_true rfl) ?_
  intro p e s m args below meth c C ls hl hP
  have hS : va_S (wA w) s.heap s.heap [] := va_S.rf
  have hl : lv_has ls 6 [(0, .ref (wAd w 90)), (1, .int a1)] := hl
  unfold f_X9_takesDigit at hf
  refine lv_iconst (v := 3) C.1 C.2.1 dX9_takesDigit_0 (by decide) ?_
  refine lv_aload_n C.1 C.2.1 dX9_takesDigit_1 rfl (lv_at hl 0 rfl) ?_
  refine k_get (v := .int (M 90 24)) C hP (lt_Model h0_Model) (ob_Model h0_Model w L _) rfl iX9 24 (by decide) q887 rfl dX9_takesDigit_2 ?_
  refine lv_imul C.1 C.2.1 dX9_takesDigit_5 ?_
  refine lv_aload_n C.1 C.2.1 dX9_takesDigit_6 rfl (lv_at hl 0 rfl) ?_
  refine k_get (v := .int (M 90 22)) C hP (lt_Model h0_Model) (ob_Model h0_Model w L _) rfl iX9 22 (by decide) q885 rfl dX9_takesDigit_7 ?_
  refine lv_iadd C.1 C.2.1 dX9_takesDigit_10 ?_
  refine lv_istore_n (lv' := [(2, .int ((3 * (M 90 24)) + (M 90 22))), (0, .ref (wAd w 90)), (1, .int a1)]) C.1 C.2.1 dX9_takesDigit_11 rfl hl (by decide) rfl (fun ls hl => ?_)
  refine lv_aload_n C.1 C.2.1 dX9_takesDigit_12 rfl (lv_at hl 1 rfl) ?_
  refine k_get (v := .int (M 90 22)) C hP (lt_Model h0_Model) (ob_Model h0_Model w L _) rfl iX9 22 (by decide) q885 rfl dX9_takesDigit_13 ?_
  refine lv_if_ne (tgt := 25) C.1 C.2.1 dX9_takesDigit_16 (by decide) (fun c1 => ?_) (fun c1 => ?_)
  · have hf := (if_neg c1).symm.trans hf
    refine lv_aload_n C.1 C.2.1 dX9_takesDigit_25 rfl (lv_at hl 1 rfl) ?_
    refine k_get (v := .int (M 90 22)) C hP (lt_Model h0_Model) (ob_Model h0_Model w L _) rfl iX9 22 (by decide) q885 rfl dX9_takesDigit_26 ?_
    refine lv_iconst (v := 1) C.1 C.2.1 dX9_takesDigit_29 (by decide) ?_
    refine lv_icmp_ne (tgt := 38) C.1 C.2.1 dX9_takesDigit_30 (by decide) (fun c2 => ?_) (fun c2 => ?_)
    · have hf := (if_neg c2).symm.trans hf
      refine lv_bipush (v := 60) C.1 C.2.1 dX9_takesDigit_38 (by decide) ?_
      exact w_X9_takesDigit_j40 C hf _ _ _ hP hS (lv_sub hl [1, 2, 0] rfl)
    · have hf := (if_pos c2).symm.trans hf
      refine lv_bipush (v := 40) C.1 C.2.1 dX9_takesDigit_33 (by decide) ?_
      refine lv_goto (tgt := 40) C.1 C.2.1 dX9_takesDigit_35 (by decide) ?_
      exact w_X9_takesDigit_j40 C hf _ _ _ hP hS (lv_sub hl [1, 2, 0] rfl)
  · have hf := (if_pos c1).symm.trans hf
    refine lv_sipush (v := 140) C.1 C.2.1 dX9_takesDigit_19 (by decide) ?_
    refine lv_goto (tgt := 40) C.1 C.2.1 dX9_takesDigit_22 (by decide) ?_
    exact w_X9_takesDigit_j40 C hf _ _ _ hP hS (lv_sub hl [1, 2, 0] rfl)
