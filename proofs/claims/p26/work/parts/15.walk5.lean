set_option maxHeartbeats 4000000 in
set_option maxRecDepth 100000 in
theorem w_L_lay_j103 {w : WT} {l : Launch} {p : Program} {e : Env} {s : State} {m : MethodId} {args : Array Value} {below : List Frame} {meth : Method} {c : Code} (C : KC w p s m args meth c cL_lay 16 RL none) (hN : 99 ≤ wN w) {v8 : Int32} {v9 : Int32} {v10 : Int32} {v11 : Int32} {v12 : Int32} {v13 : Int32} {s0 : Int32} {M : Mem} {L : Lng} {Q : State → Prop} {o : (Int32 × Int32 × Int32 × Int32 × Int32 × Int32 × Mem) ⊕ (Mem)} (hf : f_L_lay_j103 v8 v9 v10 v11 v12 v13 s0 M = some o) (hA : ∀ z, o = .inl z → AtL w p l e ({ frames := 2, cells := 0, slots := 0, locals := 43 } : Room) s m args below meth c Q 16 20 z.2.2.2.2.2.2 L [(0, .ref (wAd w 90)), (1, .ref (wAd w 91)), (2, .ref (wAd w 93)), (3, .ref (wAd w 94)), (4, .ref (wAd w 95)), (5, .ref (wAd w 96)), (6, .ref (wAd w 97)), (7, .ref (wAd w 98)), (8, .int z.1), (9, .int z.2.1), (10, .int z.2.2.1), (11, .int z.2.2.2.1), (12, .int z.2.2.2.2.1), (13, .int z.2.2.2.2.2.1)] []) (hE : ∀ y, o = .inr y → AtL w p l e ({ frames := 2, cells := 0, slots := 0, locals := 43 } : Room) s m args below meth c Q 16 242 y L [] []) : AtL w p l e ({ frames := 2, cells := 0, slots := 0, locals := 43 } : Room) s m args below meth c Q 16 103 M L [(0, .ref (wAd w 90)), (1, .ref (wAd w 91)), (2, .ref (wAd w 93)), (3, .ref (wAd w 94)), (4, .ref (wAd w 95)), (5, .ref (wAd w 96)), (6, .ref (wAd w 97)), (7, .ref (wAd w 98)), (8, .int v8), (9, .int v9), (10, .int v10), (11, .int v11), (12, .int v12), (13, .int v13)] [.int s0] := by
  intro H locs ls hP hS hl
  unfold f_L_lay_j103 at hf
  refine lv_istore (lv' := [(14, .int s0), (0, .ref (wAd w 90)), (1, .ref (wAd w 91)), (2, .ref (wAd w 93)), (3, .ref (wAd w 94)), (4, .ref (wAd w 95)), (5, .ref (wAd w 96)), (6, .ref (wAd w 97)), (7, .ref (wAd w 98)), (8, .int v8), (9, .int v9), (10, .int v10), (11, .int v11), (12, .int v12), (13, .int v13)]) C.1 C.2.1 dL_lay_103 hl (by decide) rfl (fun ls hl => ?_)
  refine lv_iload C.1 C.2.1 dL_lay_105 (lv_at hl 0 rfl) ?_
  refine lv_if_eq (tgt := 114) C.1 C.2.1 dL_lay_107 (by decide) (fun c15 => ?_) (fun c15 => ?_)
  · have hf := (if_pos c15).symm.trans hf
    exact w_L_lay_j114 C hN hf hA hE _ _ _ hP hS (lv_sub hl [1, 2, 3, 4, 5, 6, 7, 8, 9, 10, 11, 12, 13, 14, 0] rfl)
  · have hf := (if_neg c15).symm.trans hf
    refine lv_iload C.1 C.2.1 dL_lay_110 (lv_at hl 14 rfl) ?_
    refine lv_istore (lv' := [(10, .int v13), (14, .int s0), (0, .ref (wAd w 90)), (1, .ref (wAd w 91)), (2, .ref (wAd w 93)), (3, .ref (wAd w 94)), (4, .ref (wAd w 95)), (5, .ref (wAd w 96)), (6, .ref (wAd w 97)), (7, .ref (wAd w 98)), (8, .int v8), (9, .int v9), (11, .int v11), (12, .int v12), (13, .int v13)]) C.1 C.2.1 dL_lay_112 hl (by decide) rfl (fun ls hl => ?_)
    exact w_L_lay_j114 C hN hf hA hE _ _ _ hP hS (lv_sub hl [2, 3, 4, 5, 6, 7, 8, 9, 10, 11, 0, 12, 13, 14, 1] rfl)
set_option maxHeartbeats 4000000 in
set_option maxRecDepth 100000 in
theorem w_L_lay_l20 {w : WT} {l : Launch} {p : Program} {e : Env} {s : State} {m : MethodId} {args : Array Value} {below : List Frame} {meth : Method} {c : Code} (C : KC w p s m args meth c cL_lay 16 RL none) (hN : 99 ≤ wN w) {L : Lng} {Q : State → Prop} (z : Int32 × Int32 × Int32 × Int32 × Int32 × Int32 × Mem) (o : (Int32 × Int32 × Int32 × Int32 × Int32 × Int32 × Mem) ⊕ (Mem)) (hf : f_L_lay_l20 z = some o) (hA : ∀ z, o = .inl z → AtL w p l e ({ frames := 2, cells := 0, slots := 0, locals := 43 } : Room) s m args below meth c Q 16 20 z.2.2.2.2.2.2 L [(0, .ref (wAd w 90)), (1, .ref (wAd w 91)), (2, .ref (wAd w 93)), (3, .ref (wAd w 94)), (4, .ref (wAd w 95)), (5, .ref (wAd w 96)), (6, .ref (wAd w 97)), (7, .ref (wAd w 98)), (8, .int z.1), (9, .int z.2.1), (10, .int z.2.2.1), (11, .int z.2.2.2.1), (12, .int z.2.2.2.2.1), (13, .int z.2.2.2.2.2.1)] []) (hE : ∀ y, o = .inr y → AtL w p l e ({ frames := 2, cells := 0, slots := 0, locals := 43 } : Room) s m args below meth c Q 16 242 y L [] []) : AtL w p l e ({ frames := 2, cells := 0, slots := 0, locals := 43 } : Room) s m args below meth c Q 16 20 z.2.2.2.2.2.2 L [(0, .ref (wAd w 90)), (1, .ref (wAd w 91)), (2, .ref (wAd w 93)), (3, .ref (wAd w 94)), (4, .ref (wAd w 95)), (5, .ref (wAd w 96)), (6, .ref (wAd w 97)), (7, .ref (wAd w 98)), (8, .int z.1), (9, .int z.2.1), (10, .int z.2.2.1), (11, .int z.2.2.2.1), (12, .int z.2.2.2.2.1), (13, .int z.2.2.2.2.2.1)] [] := by
  intro H locs ls hP hS hl
  unfold f_L_lay_l20 at hf
  refine lv_iload C.1 C.2.1 dL_lay_20 (lv_at hl 13 rfl) ?_
  refine lv_aload_n C.1 C.2.1 dL_lay_22 rfl (lv_at hl 2 rfl) ?_
  refine lv_iconst (v := 0) C.1 C.2.1 dL_lay_23 (by decide) ?_
  obtain ⟨x1, hx1, hf⟩ := ob hf
  refine k_iald C hP (C9 C (Nat.le_of_ble_eq_true rfl)) (ar_L93 w L _) hx1 dL_lay_24 ?_
  refine lv_icmp_ge (tgt := 242) C.1 C.2.1 dL_lay_25 (by decide) (fun c2 => ?_) (fun c2 => ?_)
  · have hf := (if_pos c2).symm.trans hf
    cases hf
    exact hE _ rfl _ _ _ hP hS (lv_sub hl [] rfl)
  · have hf := (if_neg c2).symm.trans hf
    refine lv_iload C.1 C.2.1 dL_lay_28 (lv_at hl 8 rfl) ?_
    refine lv_bipush (v := 10) C.1 C.2.1 dL_lay_30 (by decide) ?_
    refine lv_aload_n C.1 C.2.1 dL_lay_32 rfl (lv_at hl 0 rfl) ?_
    refine lv_iload C.1 C.2.1 dL_lay_33 (lv_at hl 13 rfl) ?_
    obtain ⟨x3, hx3, hf⟩ := ob hf
    refine k_iald C hP (C9 C (Nat.le_of_ble_eq_true rfl)) (ar_L90 w L _) hx3 dL_lay_35 ?_
    refine lv_imul C.1 C.2.1 dL_lay_36 ?_
    refine lv_iload C.1 C.2.1 dL_lay_37 (lv_at hl 8 rfl) ?_
    refine lv_isub C.1 C.2.1 dL_lay_39 ?_
    refine lv_aload_n C.1 C.2.1 dL_lay_40 rfl (lv_at hl 3 rfl) ?_
    refine lv_bipush (v := 8) C.1 C.2.1 dL_lay_41 (by decide) ?_
    obtain ⟨x4, hx4, hf⟩ := ob hf
    refine k_iald C hP (C9 C (Nat.le_of_ble_eq_true rfl)) (ar_L94 w L _) hx4 dL_lay_43 ?_
    obtain ⟨x5, hx5, hf⟩ := ob hf
    refine k_idiv C hx5 dL_lay_44 ?_
    refine lv_iadd C.1 C.2.1 dL_lay_45 ?_
    refine lv_istore (lv' := [(8, .int (z.1 + x5)), (0, .ref (wAd w 90)), (1, .ref (wAd w 91)), (2, .ref (wAd w 93)), (3, .ref (wAd w 94)), (4, .ref (wAd w 95)), (5, .ref (wAd w 96)), (6, .ref (wAd w 97)), (7, .ref (wAd w 98)), (9, .int z.2.1), (10, .int z.2.2.1), (11, .int z.2.2.2.1), (12, .int z.2.2.2.2.1), (13, .int z.2.2.2.2.2.1)]) C.1 C.2.1 dL_lay_46 hl (by decide) rfl (fun ls hl => ?_)
    refine lv_iload C.1 C.2.1 dL_lay_48 (lv_at hl 9 rfl) ?_
    refine lv_bipush (v := 10) C.1 C.2.1 dL_lay_50 (by decide) ?_
    refine lv_aload_n C.1 C.2.1 dL_lay_52 rfl (lv_at hl 1 rfl) ?_
    refine lv_iload C.1 C.2.1 dL_lay_53 (lv_at hl 13 rfl) ?_
    obtain ⟨x6, hx6, hf⟩ := ob hf
    refine k_iald C hP (C9 C (Nat.le_of_ble_eq_true rfl)) (ar_L90 w L _) hx6 dL_lay_55 ?_
    refine lv_imul C.1 C.2.1 dL_lay_56 ?_
    refine lv_iload C.1 C.2.1 dL_lay_57 (lv_at hl 9 rfl) ?_
    refine lv_isub C.1 C.2.1 dL_lay_59 ?_
    refine lv_aload_n C.1 C.2.1 dL_lay_60 rfl (lv_at hl 4 rfl) ?_
    refine lv_bipush (v := 9) C.1 C.2.1 dL_lay_61 (by decide) ?_
    obtain ⟨x7, hx7, hf⟩ := ob hf
    refine k_iald C hP (C9 C (Nat.le_of_ble_eq_true rfl)) (ar_L94 w L _) hx7 dL_lay_63 ?_
    obtain ⟨x8, hx8, hf⟩ := ob hf
    refine k_idiv C hx8 dL_lay_64 ?_
    refine lv_iadd C.1 C.2.1 dL_lay_65 ?_
    refine lv_istore (lv' := [(9, .int (z.2.1 + x8)), (8, .int (z.1 + x5)), (0, .ref (wAd w 90)), (1, .ref (wAd w 91)), (2, .ref (wAd w 93)), (3, .ref (wAd w 94)), (4, .ref (wAd w 95)), (5, .ref (wAd w 96)), (6, .ref (wAd w 97)), (7, .ref (wAd w 98)), (10, .int z.2.2.1), (11, .int z.2.2.2.1), (12, .int z.2.2.2.2.1), (13, .int z.2.2.2.2.2.1)]) C.1 C.2.1 dL_lay_66 hl (by decide) rfl (fun ls hl => ?_)
    refine lv_aload C.1 C.2.1 dL_lay_68 (lv_at hl 6 rfl) ?_
    refine lv_iload C.1 C.2.1 dL_lay_70 (lv_at hl 13 rfl) ?_
    refine lv_iload C.1 C.2.1 dL_lay_72 (lv_at hl 1 rfl) ?_
    obtain ⟨M9, hM9, hf⟩ := ob hf
    refine k_iast C hP hS (Nat.lt_of_lt_of_le (Nat.le_of_ble_eq_true rfl) hN) (ar_L95 w L) hM9 dL_lay_74 (fun H locs hP hS => ?_)
    refine lv_aload C.1 C.2.1 dL_lay_75 (lv_at hl 7 rfl) ?_
    refine lv_iload C.1 C.2.1 dL_lay_77 (lv_at hl 13 rfl) ?_
    refine lv_iload C.1 C.2.1 dL_lay_79 (lv_at hl 0 rfl) ?_
    obtain ⟨M10, hM10, hf⟩ := ob hf
    refine k_iast C hP hS (Nat.lt_of_lt_of_le (Nat.le_of_ble_eq_true rfl) hN) (ar_L96 w L) hM10 dL_lay_81 (fun H locs hP hS => ?_)
    refine lv_aload C.1 C.2.1 dL_lay_82 (lv_at hl 9 rfl) ?_
    refine lv_iload C.1 C.2.1 dL_lay_84 (lv_at hl 13 rfl) ?_
    refine lv_iconst (v := (-1)) C.1 C.2.1 dL_lay_86 (by decide) ?_
    obtain ⟨M11, hM11, hf⟩ := ob hf
    refine k_iast C hP hS (Nat.lt_of_lt_of_le (Nat.le_of_ble_eq_true rfl) hN) (ar_L98 w L) hM11 dL_lay_87 (fun H locs hP hS => ?_)
    refine lv_aload_n C.1 C.2.1 dL_lay_88 rfl (lv_at hl 3 rfl) ?_
    refine lv_iload C.1 C.2.1 dL_lay_89 (lv_at hl 13 rfl) ?_
    obtain ⟨x12, hx12, hf⟩ := ob hf
    refine k_iald C hP (C9 C (Nat.le_of_ble_eq_true rfl)) (ar_L91 w L _) hx12 dL_lay_91 ?_
    refine lv_aload_n C.1 C.2.1 dL_lay_92 rfl (lv_at hl 5 rfl) ?_
    refine lv_iconst (v := 4) C.1 C.2.1 dL_lay_93 (by decide) ?_
    obtain ⟨x13, hx13, hf⟩ := ob hf
    refine k_iald C hP (C9 C (Nat.le_of_ble_eq_true rfl)) (ar_L94 w L _) hx13 dL_lay_94 ?_
    refine lv_icmp_lt (tgt := 102) C.1 C.2.1 dL_lay_95 (by decide) (fun c14 => ?_) (fun c14 => ?_)
    · have hf := (if_pos c14).symm.trans hf
      refine lv_iconst (v := 0) C.1 C.2.1 dL_lay_102 (by decide) ?_
      exact w_L_lay_j103 C hN hf hA hE _ _ _ hP hS (lv_sub hl [2, 3, 4, 5, 6, 7, 8, 9, 1, 0, 10, 11, 12, 13] rfl)
    · have hf := (if_neg c14).symm.trans hf
      refine lv_iconst (v := 1) C.1 C.2.1 dL_lay_98 (by decide) ?_
      refine lv_goto (tgt := 103) C.1 C.2.1 dL_lay_99 (by decide) ?_
      exact w_L_lay_j103 C hN hf hA hE _ _ _ hP hS (lv_sub hl [2, 3, 4, 5, 6, 7, 8, 9, 1, 0, 10, 11, 12, 13] rfl)
set_option maxHeartbeats 4000000 in
set_option maxRecDepth 100000 in
theorem c_L_lay (w : WT) (l : Launch) (hw : WOK w) (hN : 99 ≤ wN w) {M : Mem} {L : Lng} {out : Mem} (hf : f_L_lay M = some out) : Met l yL_lay (Cond.code yL_lay cL_lay 16 none :: BG) ({ frames := 2, cells := 0, slots := 0, locals := 43 } : Room) (PRE w [.ref (wAd w 90), .ref (wAd w 91), .ref (wAd w 93), .ref (wAd w 94), .ref (wAd w 95), .ref (wAd w 96), .ref (wAd w 97), .ref (wAd w 98)] M L) (QV w out L) 0 0 (wA w) := by
  refine kEnt hw (by decide +kernel) rfl (Nat.le_of_ble_eq_true rfl) ?_
  intro p e s m args below meth c C ls hl hP
  have hS : va_S (wA w) s.heap s.heap [] := va_S.rf
  have hl : lv_has ls 16 [(0, .ref (wAd w 90)), (1, .ref (wAd w 91)), (2, .ref (wAd w 93)), (3, .ref (wAd w 94)), (4, .ref (wAd w 95)), (5, .ref (wAd w 96)), (6, .ref (wAd w 97)), (7, .ref (wAd w 98))] := hl
  unfold f_L_lay at hf
  refine lv_iconst (v := 0) C.1 C.2.1 dL_lay_0 (by decide) ?_
  refine lv_istore (lv' := [(8, .int 0), (0, .ref (wAd w 90)), (1, .ref (wAd w 91)), (2, .ref (wAd w 93)), (3, .ref (wAd w 94)), (4, .ref (wAd w 95)), (5, .ref (wAd w 96)), (6, .ref (wAd w 97)), (7, .ref (wAd w 98))]) C.1 C.2.1 dL_lay_1 hl (by decide) rfl (fun ls hl => ?_)
  refine lv_iconst (v := 0) C.1 C.2.1 dL_lay_3 (by decide) ?_
  refine lv_istore (lv' := [(9, .int 0), (8, .int 0), (0, .ref (wAd w 90)), (1, .ref (wAd w 91)), (2, .ref (wAd w 93)), (3, .ref (wAd w 94)), (4, .ref (wAd w 95)), (5, .ref (wAd w 96)), (6, .ref (wAd w 97)), (7, .ref (wAd w 98))]) C.1 C.2.1 dL_lay_4 hl (by decide) rfl (fun ls hl => ?_)
  refine lv_bipush (v := (-100)) C.1 C.2.1 dL_lay_6 (by decide) ?_
  refine lv_istore (lv' := [(10, .int (-100)), (9, .int 0), (8, .int 0), (0, .ref (wAd w 90)), (1, .ref (wAd w 91)), (2, .ref (wAd w 93)), (3, .ref (wAd w 94)), (4, .ref (wAd w 95)), (5, .ref (wAd w 96)), (6, .ref (wAd w 97)), (7, .ref (wAd w 98))]) C.1 C.2.1 dL_lay_8 hl (by decide) rfl (fun ls hl => ?_)
  refine lv_iconst (v := (-1)) C.1 C.2.1 dL_lay_10 (by decide) ?_
  refine lv_istore (lv' := [(11, .int (-1)), (10, .int (-100)), (9, .int 0), (8, .int 0), (0, .ref (wAd w 90)), (1, .ref (wAd w 91)), (2, .ref (wAd w 93)), (3, .ref (wAd w 94)), (4, .ref (wAd w 95)), (5, .ref (wAd w 96)), (6, .ref (wAd w 97)), (7, .ref (wAd w 98))]) C.1 C.2.1 dL_lay_11 hl (by decide) rfl (fun ls hl => ?_)
  refine lv_bipush (v := (-100)) C.1 C.2.1 dL_lay_13 (by decide) ?_
  refine lv_istore (lv' := [(12, .int (-100)), (11, .int (-1)), (10, .int (-100)), (9, .int 0), (8, .int 0), (0, .ref (wAd w 90)), (1, .ref (wAd w 91)), (2, .ref (wAd w 93)), (3, .ref (wAd w 94)), (4, .ref (wAd w 95)), (5, .ref (wAd w 96)), (6, .ref (wAd w 97)), (7, .ref (wAd w 98))]) C.1 C.2.1 dL_lay_15 hl (by decide) rfl (fun ls hl => ?_)
  refine lv_iconst (v := 0) C.1 C.2.1 dL_lay_17 (by decide) ?_
  refine lv_istore (lv' := [(13, .int 0), (12, .int (-100)), (11, .int (-1)), (10, .int (-100)), (9, .int 0), (8, .int 0), (0, .ref (wAd w 90)), (1, .ref (wAd w 91)), (2, .ref (wAd w 93)), (3, .ref (wAd w 94)), (4, .ref (wAd w 95)), (5, .ref (wAd w 96)), (6, .ref (wAd w 97)), (7, .ref (wAd w 98))]) C.1 C.2.1 dL_lay_18 hl (by decide) rfl (fun ls hl => ?_)
  obtain ⟨o31, ho31, hf⟩ := ob hf
  refine loop_at (w_L_lay_l20 C hN) FU _ o31 ho31 ?_ _ _ _ hP hS (lv_sub hl [6, 7, 8, 9, 10, 11, 12, 13, 5, 4, 3, 2, 1, 0] rfl)
  intro H locs ls hP hS hl
  cases hf
  exact krv C hP hS dL_lay_242
theorem dL_exceedances_0 : decode cL_exceedances 0 = .ok (.iconst 0, 1) := by decide +kernel
theorem dL_exceedances_1 : decode cL_exceedances 1 = .ok (.istore_n 2, 1) := by decide +kernel
theorem dL_exceedances_2 : decode cL_exceedances 2 = .ok (.iconst 0, 1) := by decide +kernel
theorem dL_exceedances_3 : decode cL_exceedances 3 = .ok (.istore_n 3, 1) := by decide +kernel
theorem dL_exceedances_4 : decode cL_exceedances 4 = .ok (.iload_n 3, 1) := by decide +kernel
theorem dL_exceedances_5 : decode cL_exceedances 5 = .ok (.aload_n 0, 1) := by decide +kernel
theorem dL_exceedances_6 : decode cL_exceedances 6 = .ok (.iconst 0, 1) := by decide +kernel
theorem dL_exceedances_7 : decode cL_exceedances 7 = .ok (.iaload, 1) := by decide +kernel
theorem dL_exceedances_8 : decode cL_exceedances 8 = .ok (.if_icmp .ge 24, 3) := by decide +kernel
theorem dL_exceedances_11 : decode cL_exceedances 11 = .ok (.iload_n 2, 1) := by decide +kernel
theorem dL_exceedances_12 : decode cL_exceedances 12 = .ok (.aload_n 1, 1) := by decide +kernel
theorem dL_exceedances_13 : decode cL_exceedances 13 = .ok (.iload_n 3, 1) := by decide +kernel
theorem dL_exceedances_14 : decode cL_exceedances 14 = .ok (.iaload, 1) := by decide +kernel
theorem dL_exceedances_15 : decode cL_exceedances 15 = .ok (.iload_n 3, 1) := by decide +kernel
theorem dL_exceedances_16 : decode cL_exceedances 16 = .ok (.if_icmp .ne 7, 3) := by decide +kernel
theorem dL_exceedances_19 : decode cL_exceedances 19 = .ok (.iconst 1, 1) := by decide +kernel
theorem dL_exceedances_20 : decode cL_exceedances 20 = .ok (.goto 4, 3) := by decide +kernel
theorem dL_exceedances_23 : decode cL_exceedances 23 = .ok (.iconst 0, 1) := by decide +kernel
theorem dL_exceedances_24 : decode cL_exceedances 24 = .ok (.iadd, 1) := by decide +kernel
theorem dL_exceedances_25 : decode cL_exceedances 25 = .ok (.istore_n 2, 1) := by decide +kernel
theorem dL_exceedances_26 : decode cL_exceedances 26 = .ok (.iinc 3 1, 3) := by decide +kernel
theorem dL_exceedances_29 : decode cL_exceedances 29 = .ok (.goto (-25), 3) := by decide +kernel
theorem dL_exceedances_32 : decode cL_exceedances 32 = .ok (.iload_n 2, 1) := by decide +kernel
theorem dL_exceedances_33 : decode cL_exceedances 33 = .ok (.ireturn, 1) := by decide +kernel
set_option maxHeartbeats 4000000 in
set_option maxRecDepth 100000 in
theorem w_L_exceedances_j24 {w : WT} {l : Launch} {p : Program} {e : Env} {s : State} {m : MethodId} {args : Array Value} {below : List Frame} {meth : Method} {c : Code} (C : KC w p s m args meth c cL_exceedances 4 RL (some .int)) (hN : 99 ≤ wN w) {v3 : Int32} {s0 : Int32} {s1 : Int32} {M : Mem} {L : Lng} {Q : State → Prop} {o : (Int32 × Int32) ⊕ (Int32)} (hf : f_L_exceedances_j24 v3 s0 s1 M = some o) (hA : ∀ z, o = .inl z → AtL w p l e ({ frames := 0, cells := 0, slots := 0, locals := 0 } : Room) s m args below meth c Q 4 4 M L [(0, .ref (wAd w 93)), (1, .ref (wAd w 98)), (2, .int z.1), (3, .int z.2)] []) (hE : ∀ y, o = .inr y → AtL w p l e ({ frames := 0, cells := 0, slots := 0, locals := 0 } : Room) s m args below meth c Q 4 32 M L [(2, .int y)] []) : AtL w p l e ({ frames := 0, cells := 0, slots := 0, locals := 0 } : Room) s m args below meth c Q 4 24 M L [(0, .ref (wAd w 93)), (1, .ref (wAd w 98)), (3, .int v3)] [.int s1, .int s0] := by
  intro H locs ls hP hS hl
  unfold f_L_exceedances_j24 at hf
  refine lv_iadd C.1 C.2.1 dL_exceedances_24 ?_
  refine lv_istore_n (lv' := [(2, .int (s0 + s1)), (0, .ref (wAd w 93)), (1, .ref (wAd w 98)), (3, .int v3)]) C.1 C.2.1 dL_exceedances_25 rfl hl (by decide) rfl (fun ls hl => ?_)
  refine lv_iinc (v := (v3 + 1)) (lv' := [(3, .int (v3 + 1)), (2, .int (s0 + s1)), (0, .ref (wAd w 93)), (1, .ref (wAd w 98))]) C.1 C.2.1 dL_exceedances_26 hl (k := 3) rfl rfl (by decide) rfl (fun ls hl => ?_)
  refine lv_goto (tgt := 4) C.1 C.2.1 dL_exceedances_29 (by decide) ?_
  cases hf
  exact hA _ rfl _ _ _ hP hS (lv_sub hl [2, 3, 1, 0] rfl)
set_option maxHeartbeats 4000000 in
set_option maxRecDepth 100000 in
theorem w_L_exceedances_l4 {w : WT} {l : Launch} {p : Program} {e : Env} {s : State} {m : MethodId} {args : Array Value} {below : List Frame} {meth : Method} {c : Code} (C : KC w p s m args meth c cL_exceedances 4 RL (some .int)) (hN : 99 ≤ wN w) {M : Mem} {L : Lng} {Q : State → Prop} (z : Int32 × Int32) (o : (Int32 × Int32) ⊕ (Int32)) (hf : f_L_exceedances_l4 M z = some o) (hA : ∀ z, o = .inl z → AtL w p l e ({ frames := 0, cells := 0, slots := 0, locals := 0 } : Room) s m args below meth c Q 4 4 M L [(0, .ref (wAd w 93)), (1, .ref (wAd w 98)), (2, .int z.1), (3, .int z.2)] []) (hE : ∀ y, o = .inr y → AtL w p l e ({ frames := 0, cells := 0, slots := 0, locals := 0 } : Room) s m args below meth c Q 4 32 M L [(2, .int y)] []) : AtL w p l e ({ frames := 0, cells := 0, slots := 0, locals := 0 } : Room) s m args below meth c Q 4 4 M L [(0, .ref (wAd w 93)), (1, .ref (wAd w 98)), (2, .int z.1), (3, .int z.2)] [] := by
  intro H locs ls hP hS hl
  unfold f_L_exceedances_l4 at hf
  refine lv_iload_n C.1 C.2.1 dL_exceedances_4 rfl (lv_at hl 3 rfl) ?_
  refine lv_aload_n C.1 C.2.1 dL_exceedances_5 rfl (lv_at hl 0 rfl) ?_
  refine lv_iconst (v := 0) C.1 C.2.1 dL_exceedances_6 (by decide) ?_
  obtain ⟨x1, hx1, hf⟩ := ob hf
  refine k_iald C hP (C9 C (Nat.le_of_ble_eq_true rfl)) (ar_L93 w L _) hx1 dL_exceedances_7 ?_
  refine lv_icmp_ge (tgt := 32) C.1 C.2.1 dL_exceedances_8 (by decide) (fun c2 => ?_) (fun c2 => ?_)
  · have hf := (if_pos c2).symm.trans hf
    cases hf
    exact hE _ rfl _ _ _ hP hS (lv_sub hl [2] rfl)
  · have hf := (if_neg c2).symm.trans hf
    refine lv_iload_n C.1 C.2.1 dL_exceedances_11 rfl (lv_at hl 2 rfl) ?_
    refine lv_aload_n C.1 C.2.1 dL_exceedances_12 rfl (lv_at hl 1 rfl) ?_
    refine lv_iload_n C.1 C.2.1 dL_exceedances_13 rfl (lv_at hl 3 rfl) ?_
    obtain ⟨x3, hx3, hf⟩ := ob hf
    refine k_iald C hP (Nat.lt_of_lt_of_le (Nat.le_of_ble_eq_true rfl) hN) (ar_L98 w L _) hx3 dL_exceedances_14 ?_
    refine lv_iload_n C.1 C.2.1 dL_exceedances_15 rfl (lv_at hl 3 rfl) ?_
    refine lv_icmp_ne (tgt := 23) C.1 C.2.1 dL_exceedances_16 (by decide) (fun c4 => ?_) (fun c4 => ?_)
    · have hf := (if_neg c4).symm.trans hf
      refine lv_iconst (v := 0) C.1 C.2.1 dL_exceedances_23 (by decide) ?_
      exact w_L_exceedances_j24 C hN hf hA hE _ _ _ hP hS (lv_sub hl [0, 1, 3] rfl)
    · have hf := (if_pos c4).symm.trans hf
      refine lv_iconst (v := 1) C.1 C.2.1 dL_exceedances_19 (by decide) ?_
      refine lv_goto (tgt := 24) C.1 C.2.1 dL_exceedances_20 (by decide) ?_
      exact w_L_exceedances_j24 C hN hf hA hE _ _ _ hP hS (lv_sub hl [0, 1, 3] rfl)
set_option maxHeartbeats 4000000 in
set_option maxRecDepth 100000 in
theorem c_L_exceedances (w : WT) (l : Launch) (hw : WOK w) (hN : 99 ≤ wN w) {M : Mem} {L : Lng} {out : Int32} (hf : f_L_exceedances M = some out) : Met l yL_exceedances (Cond.code yL_exceedances cL_exceedances 4 (some .int) :: BG) ({ frames := 0, cells := 0, slots := 0, locals := 0 } : Room) (PRE w [.ref (wAd w 93), .ref (wAd w 98)] M L) (QI w out M L) 0 0 (wA w) := by
  refine kEnt hw (by decide +kernel) rfl (Nat.le_of_ble_eq_true rfl) ?_
  intro p e s m args below meth c C ls hl hP
  have hS : va_S (wA w) s.heap s.heap [] := va_S.rf
  have hl : lv_has ls 4 [(0, .ref (wAd w 93)), (1, .ref (wAd w 98))] := hl
  unfold f_L_exceedances at hf
  refine lv_iconst (v := 0) C.1 C.2.1 dL_exceedances_0 (by decide) ?_
  refine lv_istore_n (lv' := [(2, .int 0), (0, .ref (wAd w 93)), (1, .ref (wAd w 98))]) C.1 C.2.1 dL_exceedances_1 rfl hl (by decide) rfl (fun ls hl => ?_)
  refine lv_iconst (v := 0) C.1 C.2.1 dL_exceedances_2 (by decide) ?_
  refine lv_istore_n (lv' := [(3, .int 0), (2, .int 0), (0, .ref (wAd w 93)), (1, .ref (wAd w 98))]) C.1 C.2.1 dL_exceedances_3 rfl hl (by decide) rfl (fun ls hl => ?_)
  obtain ⟨o5, ho5, hf⟩ := ob hf
  refine loop_at (w_L_exceedances_l4 C hN) FU _ o5 ho5 ?_ _ _ _ hP hS (lv_sub hl [2, 3, 1, 0] rfl)
  intro H locs ls hP hS hl
  refine lv_iload_n C.1 C.2.1 dL_exceedances_32 rfl (lv_at hl 0 rfl) ?_
  cases hf
  exact kri C hP hS dL_exceedances_33
theorem dL_part_0 : decode cL_part 0 = .ok (.iconst 0, 1) := by decide +kernel
theorem dL_part_1 : decode cL_part 1 = .ok (.istore 8, 2) := by decide +kernel
theorem dL_part_3 : decode cL_part 3 = .ok (.iload_n 0, 1) := by decide +kernel
theorem dL_part_4 : decode cL_part 4 = .ok (.istore 9, 2) := by decide +kernel
theorem dL_part_6 : decode cL_part 6 = .ok (.iload 9, 2) := by decide +kernel
theorem dL_part_8 : decode cL_part 8 = .ok (.aload_n 2, 1) := by decide +kernel
theorem dL_part_9 : decode cL_part 9 = .ok (.iconst 0, 1) := by decide +kernel
theorem dL_part_10 : decode cL_part 10 = .ok (.iaload, 1) := by decide +kernel
theorem dL_part_11 : decode cL_part 11 = .ok (.if_icmp .ge 128, 3) := by decide +kernel
theorem dL_part_14 : decode cL_part 14 = .ok (.aload 7, 2) := by decide +kernel
theorem dL_part_16 : decode cL_part 16 = .ok (.iload 9, 2) := by decide +kernel
theorem dL_part_18 : decode cL_part 18 = .ok (.iaload, 1) := by decide +kernel
theorem dL_part_19 : decode cL_part 19 = .ok (.iload_n 0, 1) := by decide +kernel
theorem dL_part_20 : decode cL_part 20 = .ok (.if_icmp .eq 6, 3) := by decide +kernel
theorem dL_part_23 : decode cL_part 23 = .ok (.goto 110, 3) := by decide +kernel
theorem dL_part_26 : decode cL_part 26 = .ok (.aload 6, 2) := by decide +kernel
theorem dL_part_28 : decode cL_part 28 = .ok (.iload 9, 2) := by decide +kernel
theorem dL_part_30 : decode cL_part 30 = .ok (.iaload, 1) := by decide +kernel
theorem dL_part_31 : decode cL_part 31 = .ok (.ifCond .ne 7, 3) := by decide +kernel
theorem dL_part_34 : decode cL_part 34 = .ok (.iconst 1, 1) := by decide +kernel
theorem dL_part_35 : decode cL_part 35 = .ok (.goto 4, 3) := by decide +kernel
theorem dL_part_38 : decode cL_part 38 = .ok (.iconst 0, 1) := by decide +kernel
theorem dL_part_39 : decode cL_part 39 = .ok (.istore 10, 2) := by decide +kernel
theorem dL_part_41 : decode cL_part 41 = .ok (.iload_n 1, 1) := by decide +kernel
theorem dL_part_42 : decode cL_part 42 = .ok (.ifCond .ne 8, 3) := by decide +kernel
theorem dL_part_45 : decode cL_part 45 = .ok (.iload 9, 2) := by decide +kernel
theorem dL_part_47 : decode cL_part 47 = .ok (.goto 84, 3) := by decide +kernel
theorem dL_part_50 : decode cL_part 50 = .ok (.iload_n 1, 1) := by decide +kernel
theorem dL_part_51 : decode cL_part 51 = .ok (.iconst 1, 1) := by decide +kernel
theorem dL_part_52 : decode cL_part 52 = .ok (.if_icmp .ne 19, 3) := by decide +kernel
theorem dL_part_55 : decode cL_part 55 = .ok (.iload 8, 2) := by decide +kernel
theorem dL_part_57 : decode cL_part 57 = .ok (.iload 10, 2) := by decide +kernel
theorem dL_part_59 : decode cL_part 59 = .ok (.ifCond .eq 7, 3) := by decide +kernel
theorem dL_part_62 : decode cL_part 62 = .ok (.iconst 1, 1) := by decide +kernel
theorem dL_part_63 : decode cL_part 63 = .ok (.goto 4, 3) := by decide +kernel
theorem dL_part_66 : decode cL_part 66 = .ok (.iconst 0, 1) := by decide +kernel
theorem dL_part_67 : decode cL_part 67 = .ok (.iadd, 1) := by decide +kernel
theorem dL_part_68 : decode cL_part 68 = .ok (.goto 63, 3) := by decide +kernel
theorem dL_part_71 : decode cL_part 71 = .ok (.iload_n 1, 1) := by decide +kernel
theorem dL_part_72 : decode cL_part 72 = .ok (.iconst 2, 1) := by decide +kernel
theorem dL_part_73 : decode cL_part 73 = .ok (.if_icmp .ne 31, 3) := by decide +kernel
theorem dL_part_76 : decode cL_part 76 = .ok (.iload 10, 2) := by decide +kernel
theorem dL_part_78 : decode cL_part 78 = .ok (.ifCond .eq 21, 3) := by decide +kernel
theorem dL_part_81 : decode cL_part 81 = .ok (.aload 4, 2) := by decide +kernel
theorem dL_part_83 : decode cL_part 83 = .ok (.iload 9, 2) := by decide +kernel
theorem dL_part_85 : decode cL_part 85 = .ok (.iaload, 1) := by decide +kernel
theorem dL_part_86 : decode cL_part 86 = .ok (.iload 8, 2) := by decide +kernel
theorem dL_part_88 : decode cL_part 88 = .ok (.if_icmp .le 11, 3) := by decide +kernel
theorem dL_part_91 : decode cL_part 91 = .ok (.aload 4, 2) := by decide +kernel
theorem dL_part_93 : decode cL_part 93 = .ok (.iload 9, 2) := by decide +kernel
theorem dL_part_95 : decode cL_part 95 = .ok (.iaload, 1) := by decide +kernel
theorem dL_part_96 : decode cL_part 96 = .ok (.goto 35, 3) := by decide +kernel
theorem dL_part_99 : decode cL_part 99 = .ok (.iload 8, 2) := by decide +kernel
theorem dL_part_101 : decode cL_part 101 = .ok (.goto 30, 3) := by decide +kernel
theorem dL_part_104 : decode cL_part 104 = .ok (.iload 8, 2) := by decide +kernel
theorem dL_part_106 : decode cL_part 106 = .ok (.iload 10, 2) := by decide +kernel
theorem dL_part_108 : decode cL_part 108 = .ok (.ifCond .eq 21, 3) := by decide +kernel
theorem dL_part_111 : decode cL_part 111 = .ok (.aload 5, 2) := by decide +kernel
theorem dL_part_113 : decode cL_part 113 = .ok (.iload 9, 2) := by decide +kernel
theorem dL_part_115 : decode cL_part 115 = .ok (.iaload, 1) := by decide +kernel
theorem dL_part_116 : decode cL_part 116 = .ok (.bipush 10, 2) := by decide +kernel
theorem dL_part_118 : decode cL_part 118 = .ok (.iload 9, 2) := by decide +kernel
theorem dL_part_120 : decode cL_part 120 = .ok (.aload_n 3, 1) := by decide +kernel
theorem dL_part_121 : decode cL_part 121 = .ok (.invokestatic 8, 3) := by decide +kernel
theorem dL_part_124 : decode cL_part 124 = .ok (.imul, 1) := by decide +kernel
theorem dL_part_125 : decode cL_part 125 = .ok (.isub, 1) := by decide +kernel
theorem dL_part_126 : decode cL_part 126 = .ok (.goto 4, 3) := by decide +kernel
theorem dL_part_129 : decode cL_part 129 = .ok (.iconst 0, 1) := by decide +kernel
theorem dL_part_130 : decode cL_part 130 = .ok (.iadd, 1) := by decide +kernel
theorem dL_part_131 : decode cL_part 131 = .ok (.istore 8, 2) := by decide +kernel
theorem dL_part_133 : decode cL_part 133 = .ok (.iinc 9 1, 3) := by decide +kernel
theorem dL_part_136 : decode cL_part 136 = .ok (.goto (-130), 3) := by decide +kernel
theorem dL_part_139 : decode cL_part 139 = .ok (.iload 8, 2) := by decide +kernel
theorem dL_part_141 : decode cL_part 141 = .ok (.ireturn, 1) := by decide +kernel
set_option maxHeartbeats 4000000 in
set_option maxRecDepth 100000 in
theorem w_L_part_j133 {w : WT} {l : Launch} {p : Program} {e : Env} {s : State} {m : MethodId} {args : Array Value} {below : List Frame} {meth : Method} {c : Code} (C : KC w p s m args meth c cL_part 11 RL (some .int)) (hN : 99 ≤ wN w) {v0 : Int32} {v1 : Int32} {v8 : Int32} {v9 : Int32} {M : Mem} {L : Lng} {Q : State → Prop} {o : (Int32 × Int32) ⊕ (Int32)} (hf : f_L_part_j133 v0 v1 v8 v9 M = some o) (hA : ∀ z, o = .inl z → AtL w p l e ({ frames := 2, cells := 0, slots := 0, locals := 43 } : Room) s m args below meth c Q 11 6 M L [(0, .int v0), (1, .int v1), (2, .ref (wAd w 93)), (3, .ref (wAd w 94)), (4, .ref (wAd w 95)), (5, .ref (wAd w 96)), (6, .ref (wAd w 97)), (7, .ref (wAd w 98)), (8, .int z.1), (9, .int z.2)] []) (hE : ∀ y, o = .inr y → AtL w p l e ({ frames := 2, cells := 0, slots := 0, locals := 43 } : Room) s m args below meth c Q 11 139 M L [(8, .int y)] []) : AtL w p l e ({ frames := 2, cells := 0, slots := 0, locals := 43 } : Room) s m args below meth c Q 11 133 M L [(0, .int v0), (1, .int v1), (2, .ref (wAd w 93)), (3, .ref (wAd w 94)), (4, .ref (wAd w 95)), (5, .ref (wAd w 96)), (6, .ref (wAd w 97)), (7, .ref (wAd w 98)), (8, .int v8), (9, .int v9)] [] := by
  intro H locs ls hP hS hl
  unfold f_L_part_j133 at hf
  refine lv_iinc (v := (v9 + 1)) (lv' := [(9, .int (v9 + 1)), (0, .int v0), (1, .int v1), (2, .ref (wAd w 93)), (3, .ref (wAd w 94)), (4, .ref (wAd w 95)), (5, .ref (wAd w 96)), (6, .ref (wAd w 97)), (7, .ref (wAd w 98)), (8, .int v8)]) C.1 C.2.1 dL_part_133 hl (k := 9) rfl rfl (by decide) rfl (fun ls hl => ?_)
  refine lv_goto (tgt := 6) C.1 C.2.1 dL_part_136 (by decide) ?_
  cases hf
  exact hA _ rfl _ _ _ hP hS (lv_sub hl [1, 2, 3, 4, 5, 6, 7, 8, 9, 0] rfl)
set_option maxHeartbeats 4000000 in
set_option maxRecDepth 100000 in
theorem w_L_part_j131 {w : WT} {l : Launch} {p : Program} {e : Env} {s : State} {m : MethodId} {args : Array Value} {below : List Frame} {meth : Method} {c : Code} (C : KC w p s m args meth c cL_part 11 RL (some .int)) (hN : 99 ≤ wN w) {v0 : Int32} {v1 : Int32} {v9 : Int32} {s0 : Int32} {M : Mem} {L : Lng} {Q : State → Prop} {o : (Int32 × Int32) ⊕ (Int32)} (hf : f_L_part_j131 v0 v1 v9 s0 M = some o) (hA : ∀ z, o = .inl z → AtL w p l e ({ frames := 2, cells := 0, slots := 0, locals := 43 } : Room) s m args below meth c Q 11 6 M L [(0, .int v0), (1, .int v1), (2, .ref (wAd w 93)), (3, .ref (wAd w 94)), (4, .ref (wAd w 95)), (5, .ref (wAd w 96)), (6, .ref (wAd w 97)), (7, .ref (wAd w 98)), (8, .int z.1), (9, .int z.2)] []) (hE : ∀ y, o = .inr y → AtL w p l e ({ frames := 2, cells := 0, slots := 0, locals := 43 } : Room) s m args below meth c Q 11 139 M L [(8, .int y)] []) : AtL w p l e ({ frames := 2, cells := 0, slots := 0, locals := 43 } : Room) s m args below meth c Q 11 131 M L [(0, .int v0), (1, .int v1), (2, .ref (wAd w 93)), (3, .ref (wAd w 94)), (4, .ref (wAd w 95)), (5, .ref (wAd w 96)), (6, .ref (wAd w 97)), (7, .ref (wAd w 98)), (9, .int v9)] [.int s0] := by
  intro H locs ls hP hS hl
  unfold f_L_part_j131 at hf
  refine lv_istore (lv' := [(8, .int s0), (0, .int v0), (1, .int v1), (2, .ref (wAd w 93)), (3, .ref (wAd w 94)), (4, .ref (wAd w 95)), (5, .ref (wAd w 96)), (6, .ref (wAd w 97)), (7, .ref (wAd w 98)), (9, .int v9)]) C.1 C.2.1 dL_part_131 hl (by decide) rfl (fun ls hl => ?_)
  exact w_L_part_j133 C hN hf hA hE _ _ _ hP hS (lv_sub hl [1, 2, 3, 4, 5, 6, 7, 8, 0, 9] rfl)
set_option maxHeartbeats 4000000 in
set_option maxRecDepth 100000 in
theorem w_L_part_j130 {w : WT} {l : Launch} {p : Program} {e : Env} {s : State} {m : MethodId} {args : Array Value} {below : List Frame} {meth : Method} {c : Code} (C : KC w p s m args meth c cL_part 11 RL (some .int)) (hN : 99 ≤ wN w) {v0 : Int32} {v1 : Int32} {v9 : Int32} {s0 : Int32} {s1 : Int32} {M : Mem} {L : Lng} {Q : State → Prop} {o : (Int32 × Int32) ⊕ (Int32)} (hf : f_L_part_j130 v0 v1 v9 s0 s1 M = some o) (hA : ∀ z, o = .inl z → AtL w p l e ({ frames := 2, cells := 0, slots := 0, locals := 43 } : Room) s m args below meth c Q 11 6 M L [(0, .int v0), (1, .int v1), (2, .ref (wAd w 93)), (3, .ref (wAd w 94)), (4, .ref (wAd w 95)), (5, .ref (wAd w 96)), (6, .ref (wAd w 97)), (7, .ref (wAd w 98)), (8, .int z.1), (9, .int z.2)] []) (hE : ∀ y, o = .inr y → AtL w p l e ({ frames := 2, cells := 0, slots := 0, locals := 43 } : Room) s m args below meth c Q 11 139 M L [(8, .int y)] []) : AtL w p l e ({ frames := 2, cells := 0, slots := 0, locals := 43 } : Room) s m args below meth c Q 11 130 M L [(0, .int v0), (1, .int v1), (2, .ref (wAd w 93)), (3, .ref (wAd w 94)), (4, .ref (wAd w 95)), (5, .ref (wAd w 96)), (6, .ref (wAd w 97)), (7, .ref (wAd w 98)), (9, .int v9)] [.int s1, .int s0] := by
  intro H locs ls hP hS hl
  unfold f_L_part_j130 at hf
  refine lv_iadd C.1 C.2.1 dL_part_130 ?_
  exact w_L_part_j131 C hN hf hA hE _ _ _ hP hS hl
set_option maxHeartbeats 4000000 in
set_option maxRecDepth 100000 in
theorem w_L_part_j99 {w : WT} {l : Launch} {p : Program} {e : Env} {s : State} {m : MethodId} {args : Array Value} {below : List Frame} {meth : Method} {c : Code} (C : KC w p s m args meth c cL_part 11 RL (some .int)) (hN : 99 ≤ wN w) {v0 : Int32} {v1 : Int32} {v8 : Int32} {v9 : Int32} {M : Mem} {L : Lng} {Q : State → Prop} {o : (Int32 × Int32) ⊕ (Int32)} (hf : f_L_part_j99 v0 v1 v8 v9 M = some o) (hA : ∀ z, o = .inl z → AtL w p l e ({ frames := 2, cells := 0, slots := 0, locals := 43 } : Room) s m args below meth c Q 11 6 M L [(0, .int v0), (1, .int v1), (2, .ref (wAd w 93)), (3, .ref (wAd w 94)), (4, .ref (wAd w 95)), (5, .ref (wAd w 96)), (6, .ref (wAd w 97)), (7, .ref (wAd w 98)), (8, .int z.1), (9, .int z.2)] []) (hE : ∀ y, o = .inr y → AtL w p l e ({ frames := 2, cells := 0, slots := 0, locals := 43 } : Room) s m args below meth c Q 11 139 M L [(8, .int y)] []) : AtL w p l e ({ frames := 2, cells := 0, slots := 0, locals := 43 } : Room) s m args below meth c Q 11 99 M L [(0, .int v0), (1, .int v1), (2, .ref (wAd w 93)), (3, .ref (wAd w 94)), (4, .ref (wAd w 95)), (5, .ref (wAd w 96)), (6, .ref (wAd w 97)), (7, .ref (wAd w 98)), (8, .int v8), (9, .int v9)] [] := by
  intro H locs ls hP hS hl
  unfold f_L_part_j99 at hf
  refine lv_iload C.1 C.2.1 dL_part_99 (lv_at hl 8 rfl) ?_
  refine lv_goto (tgt := 131) C.1 C.2.1 dL_part_101 (by decide) ?_
  exact w_L_part_j131 C hN hf hA hE _ _ _ hP hS (lv_sub hl [0, 1, 2, 3, 4, 5, 6, 7, 9] rfl)
set_option maxHeartbeats 4000000 in
set_option maxRecDepth 100000 in
theorem w_L_part_j67 {w : WT} {l : Launch} {p : Program} {e : Env} {s : State} {m : MethodId} {args : Array Value} {below : List Frame} {meth : Method} {c : Code} (C : KC w p s m args meth c cL_part 11 RL (some .int)) (hN : 99 ≤ wN w) {v0 : Int32} {v1 : Int32} {v9 : Int32} {s0 : Int32} {s1 : Int32} {M : Mem} {L : Lng} {Q : State → Prop} {o : (Int32 × Int32) ⊕ (Int32)} (hf : f_L_part_j67 v0 v1 v9 s0 s1 M = some o) (hA : ∀ z, o = .inl z → AtL w p l e ({ frames := 2, cells := 0, slots := 0, locals := 43 } : Room) s m args below meth c Q 11 6 M L [(0, .int v0), (1, .int v1), (2, .ref (wAd w 93)), (3, .ref (wAd w 94)), (4, .ref (wAd w 95)), (5, .ref (wAd w 96)), (6, .ref (wAd w 97)), (7, .ref (wAd w 98)), (8, .int z.1), (9, .int z.2)] []) (hE : ∀ y, o = .inr y → AtL w p l e ({ frames := 2, cells := 0, slots := 0, locals := 43 } : Room) s m args below meth c Q 11 139 M L [(8, .int y)] []) : AtL w p l e ({ frames := 2, cells := 0, slots := 0, locals := 43 } : Room) s m args below meth c Q 11 67 M L [(0, .int v0), (1, .int v1), (2, .ref (wAd w 93)), (3, .ref (wAd w 94)), (4, .ref (wAd w 95)), (5, .ref (wAd w 96)), (6, .ref (wAd w 97)), (7, .ref (wAd w 98)), (9, .int v9)] [.int s1, .int s0] := by
  intro H locs ls hP hS hl
  unfold f_L_part_j67 at hf
  refine lv_iadd C.1 C.2.1 dL_part_67 ?_
  refine lv_goto (tgt := 131) C.1 C.2.1 dL_part_68 (by decide) ?_
  exact w_L_part_j131 C hN hf hA hE _ _ _ hP hS hl
set_option maxHeartbeats 4000000 in
set_option maxRecDepth 100000 in
theorem w_L_part_j39 {w : WT} {l : Launch} {p : Program} {e : Env} {s : State} {m : MethodId} {args : Array Value} {below : List Frame} {meth : Method} {c : Code} (C : KC w p s m args meth c cL_part 11 RL (some .int)) (hN : 99 ≤ wN w) {v0 : Int32} {v1 : Int32} {v8 : Int32} {v9 : Int32} {s0 : Int32} {M : Mem} {L : Lng} {Q : State → Prop} {o : (Int32 × Int32) ⊕ (Int32)} (hf : f_L_part_j39 v0 v1 v8 v9 s0 M = some o) (hA : ∀ z, o = .inl z → AtL w p l e ({ frames := 2, cells := 0, slots := 0, locals := 43 } : Room) s m args below meth c Q 11 6 M L [(0, .int v0), (1, .int v1), (2, .ref (wAd w 93)), (3, .ref (wAd w 94)), (4, .ref (wAd w 95)), (5, .ref (wAd w 96)), (6, .ref (wAd w 97)), (7, .ref (wAd w 98)), (8, .int z.1), (9, .int z.2)] []) (hE : ∀ y, o = .inr y → AtL w p l e ({ frames := 2, cells := 0, slots := 0, locals := 43 } : Room) s m args below meth c Q 11 139 M L [(8, .int y)] []) : AtL w p l e ({ frames := 2, cells := 0, slots := 0, locals := 43 } : Room) s m args below meth c Q 11 39 M L [(0, .int v0), (1, .int v1), (2, .ref (wAd w 93)), (3, .ref (wAd w 94)), (4, .ref (wAd w 95)), (5, .ref (wAd w 96)), (6, .ref (wAd w 97)), (7, .ref (wAd w 98)), (8, .int v8), (9, .int v9)] [.int s0] := by
  intro H locs ls hP hS hl
  unfold f_L_part_j39 at hf
  refine lv_istore (lv' := [(10, .int s0), (0, .int v0), (1, .int v1), (2, .ref (wAd w 93)), (3, .ref (wAd w 94)), (4, .ref (wAd w 95)), (5, .ref (wAd w 96)), (6, .ref (wAd w 97)), (7, .ref (wAd w 98)), (8, .int v8), (9, .int v9)]) C.1 C.2.1 dL_part_39 hl (by decide) rfl (fun ls hl => ?_)
  refine lv_iload_n C.1 C.2.1 dL_part_41 rfl (lv_at hl 2 rfl) ?_
  refine lv_if_ne (tgt := 50) C.1 C.2.1 dL_part_42 (by decide) (fun c7 => ?_) (fun c7 => ?_)
  · have hf := (if_neg c7).symm.trans hf
    refine lv_iload_n C.1 C.2.1 dL_part_50 rfl (lv_at hl 2 rfl) ?_
    refine lv_iconst (v := 1) C.1 C.2.1 dL_part_51 (by decide) ?_
    refine lv_icmp_ne (tgt := 71) C.1 C.2.1 dL_part_52 (by decide) (fun c8 => ?_) (fun c8 => ?_)
    · have hf := (if_neg c8).symm.trans hf
      refine lv_iload_n C.1 C.2.1 dL_part_71 rfl (lv_at hl 2 rfl) ?_
      refine lv_iconst (v := 2) C.1 C.2.1 dL_part_72 (by decide) ?_
      refine lv_icmp_ne (tgt := 104) C.1 C.2.1 dL_part_73 (by decide) (fun c9 => ?_) (fun c9 => ?_)
      · have hf := (if_neg c9).symm.trans hf
        refine lv_iload C.1 C.2.1 dL_part_104 (lv_at hl 9 rfl) ?_
        refine lv_iload C.1 C.2.1 dL_part_106 (lv_at hl 0 rfl) ?_
        refine lv_if_eq (tgt := 129) C.1 C.2.1 dL_part_108 (by decide) (fun c10 => ?_) (fun c10 => ?_)
        · have hf := (if_pos c10).symm.trans hf
          refine lv_iconst (v := 0) C.1 C.2.1 dL_part_129 (by decide) ?_
          exact w_L_part_j130 C hN hf hA hE _ _ _ hP hS (lv_sub hl [1, 2, 3, 4, 5, 6, 7, 8, 10] rfl)
        · have hf := (if_neg c10).symm.trans hf
          refine lv_aload C.1 C.2.1 dL_part_111 (lv_at hl 6 rfl) ?_
          refine lv_iload C.1 C.2.1 dL_part_113 (lv_at hl 10 rfl) ?_
          obtain ⟨x11, hx11, hf⟩ := ob hf
          refine k_iald C hP (Nat.lt_of_lt_of_le (Nat.le_of_ble_eq_true rfl) hN) (ar_L96 w L _) hx11 dL_part_115 ?_
          refine lv_bipush (v := 10) C.1 C.2.1 dL_part_116 (by decide) ?_
          refine lv_iload C.1 C.2.1 dL_part_118 (lv_at hl 10 rfl) ?_
          refine lv_aload_n C.1 C.2.1 dL_part_120 rfl (lv_at hl 4 rfl) ?_
          obtain ⟨r12, hr12, hf⟩ := ob hf
          refine kci (kS (As := [.int v9, .ref (wAd w 94)]) (rest := [.int 10, .int x11, .int v8]) C hl.1 hP hS (c_L_limit w l C.2.2.2.2.2.2.2.2 (L := L) hr12) (gS q393 q394 q0 q395) hd_L_limit ⟨rfl, rfl⟩ ⟨Nat.le_of_ble_eq_true rfl, Nat.le_of_ble_eq_true rfl⟩ rfl rfl (Nat.le_of_ble_eq_true rfl) dL_part_121 ⟨Nat.zero_le _, Nat.zero_le _⟩) hS (fun H locs hP hS => ?_)
          refine lv_imul C.1 C.2.1 dL_part_124 ?_
          refine lv_isub C.1 C.2.1 dL_part_125 ?_
          refine lv_goto (tgt := 130) C.1 C.2.1 dL_part_126 (by decide) ?_
          exact w_L_part_j130 C hN hf hA hE _ _ _ hP hS (lv_sub hl [1, 2, 3, 4, 5, 6, 7, 8, 10] rfl)
      · have hf := (if_pos c9).symm.trans hf
        refine lv_iload C.1 C.2.1 dL_part_76 (lv_at hl 0 rfl) ?_
        refine lv_if_eq (tgt := 99) C.1 C.2.1 dL_part_78 (by decide) (fun c13 => ?_) (fun c13 => ?_)
        · have hf := (if_pos c13).symm.trans hf
          exact w_L_part_j99 C hN hf hA hE _ _ _ hP hS (lv_sub hl [1, 2, 3, 4, 5, 6, 7, 8, 9, 10] rfl)
        · have hf := (if_neg c13).symm.trans hf
          refine lv_aload C.1 C.2.1 dL_part_81 (lv_at hl 5 rfl) ?_
          refine lv_iload C.1 C.2.1 dL_part_83 (lv_at hl 10 rfl) ?_
          obtain ⟨x14, hx14, hf⟩ := ob hf
          refine k_iald C hP (Nat.lt_of_lt_of_le (Nat.le_of_ble_eq_true rfl) hN) (ar_L95 w L _) hx14 dL_part_85 ?_
          refine lv_iload C.1 C.2.1 dL_part_86 (lv_at hl 9 rfl) ?_
          refine lv_icmp_le (tgt := 99) C.1 C.2.1 dL_part_88 (by decide) (fun c15 => ?_) (fun c15 => ?_)
          · have hf := (if_pos c15).symm.trans hf
            exact w_L_part_j99 C hN hf hA hE _ _ _ hP hS (lv_sub hl [1, 2, 3, 4, 5, 6, 7, 8, 9, 10] rfl)
          · have hf := (if_neg c15).symm.trans hf
            refine lv_aload C.1 C.2.1 dL_part_91 (lv_at hl 5 rfl) ?_
            refine lv_iload C.1 C.2.1 dL_part_93 (lv_at hl 10 rfl) ?_
            obtain ⟨x16, hx16, hf⟩ := ob hf
            refine k_iald C hP (Nat.lt_of_lt_of_le (Nat.le_of_ble_eq_true rfl) hN) (ar_L95 w L _) hx16 dL_part_95 ?_
            refine lv_goto (tgt := 131) C.1 C.2.1 dL_part_96 (by decide) ?_
            exact w_L_part_j131 C hN hf hA hE _ _ _ hP hS (lv_sub hl [1, 2, 3, 4, 5, 6, 7, 8, 10] rfl)
    · have hf := (if_pos c8).symm.trans hf
      refine lv_iload C.1 C.2.1 dL_part_55 (lv_at hl 9 rfl) ?_
      refine lv_iload C.1 C.2.1 dL_part_57 (lv_at hl 0 rfl) ?_
      refine lv_if_eq (tgt := 66) C.1 C.2.1 dL_part_59 (by decide) (fun c17 => ?_) (fun c17 => ?_)
      · have hf := (if_pos c17).symm.trans hf
        refine lv_iconst (v := 0) C.1 C.2.1 dL_part_66 (by decide) ?_
        exact w_L_part_j67 C hN hf hA hE _ _ _ hP hS (lv_sub hl [1, 2, 3, 4, 5, 6, 7, 8, 10] rfl)
      · have hf := (if_neg c17).symm.trans hf
        refine lv_iconst (v := 1) C.1 C.2.1 dL_part_62 (by decide) ?_
        refine lv_goto (tgt := 67) C.1 C.2.1 dL_part_63 (by decide) ?_
        exact w_L_part_j67 C hN hf hA hE _ _ _ hP hS (lv_sub hl [1, 2, 3, 4, 5, 6, 7, 8, 10] rfl)
  · have hf := (if_pos c7).symm.trans hf
    refine lv_iload C.1 C.2.1 dL_part_45 (lv_at hl 10 rfl) ?_
    refine lv_goto (tgt := 131) C.1 C.2.1 dL_part_47 (by decide) ?_
    exact w_L_part_j131 C hN hf hA hE _ _ _ hP hS (lv_sub hl [1, 2, 3, 4, 5, 6, 7, 8, 10] rfl)
set_option maxHeartbeats 4000000 in
set_option maxRecDepth 100000 in
theorem w_L_part_l6 {w : WT} {l : Launch} {p : Program} {e : Env} {s : State} {m : MethodId} {args : Array Value} {below : List Frame} {meth : Method} {c : Code} (C : KC w p s m args meth c cL_part 11 RL (some .int)) (hN : 99 ≤ wN w) {v0 : Int32} {v1 : Int32} {M : Mem} {L : Lng} {Q : State → Prop} (z : Int32 × Int32) (o : (Int32 × Int32) ⊕ (Int32)) (hf : f_L_part_l6 v0 v1 M z = some o) (hA : ∀ z, o = .inl z → AtL w p l e ({ frames := 2, cells := 0, slots := 0, locals := 43 } : Room) s m args below meth c Q 11 6 M L [(0, .int v0), (1, .int v1), (2, .ref (wAd w 93)), (3, .ref (wAd w 94)), (4, .ref (wAd w 95)), (5, .ref (wAd w 96)), (6, .ref (wAd w 97)), (7, .ref (wAd w 98)), (8, .int z.1), (9, .int z.2)] []) (hE : ∀ y, o = .inr y → AtL w p l e ({ frames := 2, cells := 0, slots := 0, locals := 43 } : Room) s m args below meth c Q 11 139 M L [(8, .int y)] []) : AtL w p l e ({ frames := 2, cells := 0, slots := 0, locals := 43 } : Room) s m args below meth c Q 11 6 M L [(0, .int v0), (1, .int v1), (2, .ref (wAd w 93)), (3, .ref (wAd w 94)), (4, .ref (wAd w 95)), (5, .ref (wAd w 96)), (6, .ref (wAd w 97)), (7, .ref (wAd w 98)), (8, .int z.1), (9, .int z.2)] [] := by
  intro H locs ls hP hS hl
  unfold f_L_part_l6 at hf
  refine lv_iload C.1 C.2.1 dL_part_6 (lv_at hl 9 rfl) ?_
  refine lv_aload_n C.1 C.2.1 dL_part_8 rfl (lv_at hl 2 rfl) ?_
  refine lv_iconst (v := 0) C.1 C.2.1 dL_part_9 (by decide) ?_
  obtain ⟨x1, hx1, hf⟩ := ob hf
  refine k_iald C hP (C9 C (Nat.le_of_ble_eq_true rfl)) (ar_L93 w L _) hx1 dL_part_10 ?_
  refine lv_icmp_ge (tgt := 139) C.1 C.2.1 dL_part_11 (by decide) (fun c2 => ?_) (fun c2 => ?_)
  · have hf := (if_pos c2).symm.trans hf
    cases hf
    exact hE _ rfl _ _ _ hP hS (lv_sub hl [8] rfl)
  · have hf := (if_neg c2).symm.trans hf
    refine lv_aload C.1 C.2.1 dL_part_14 (lv_at hl 7 rfl) ?_
    refine lv_iload C.1 C.2.1 dL_part_16 (lv_at hl 9 rfl) ?_
    obtain ⟨x3, hx3, hf⟩ := ob hf
    refine k_iald C hP (Nat.lt_of_lt_of_le (Nat.le_of_ble_eq_true rfl) hN) (ar_L98 w L _) hx3 dL_part_18 ?_
    refine lv_iload_n C.1 C.2.1 dL_part_19 rfl (lv_at hl 0 rfl) ?_
    refine lv_icmp_eq (tgt := 26) C.1 C.2.1 dL_part_20 (by decide) (fun c4 => ?_) (fun c4 => ?_)
    · have hf := (if_pos c4).symm.trans hf
      refine lv_aload C.1 C.2.1 dL_part_26 (lv_at hl 6 rfl) ?_
      refine lv_iload C.1 C.2.1 dL_part_28 (lv_at hl 9 rfl) ?_
      obtain ⟨x5, hx5, hf⟩ := ob hf
      refine k_iald C hP (Nat.lt_of_lt_of_le (Nat.le_of_ble_eq_true rfl) hN) (ar_L97 w L _) hx5 dL_part_30 ?_
      refine lv_if_ne (tgt := 38) C.1 C.2.1 dL_part_31 (by decide) (fun c6 => ?_) (fun c6 => ?_)
      · have hf := (if_neg c6).symm.trans hf
        refine lv_iconst (v := 0) C.1 C.2.1 dL_part_38 (by decide) ?_
        exact w_L_part_j39 C hN hf hA hE _ _ _ hP hS hl
      · have hf := (if_pos c6).symm.trans hf
        refine lv_iconst (v := 1) C.1 C.2.1 dL_part_34 (by decide) ?_
        refine lv_goto (tgt := 39) C.1 C.2.1 dL_part_35 (by decide) ?_
        exact w_L_part_j39 C hN hf hA hE _ _ _ hP hS hl
    · have hf := (if_neg c4).symm.trans hf
      refine lv_goto (tgt := 133) C.1 C.2.1 dL_part_23 (by decide) ?_
      exact w_L_part_j133 C hN hf hA hE _ _ _ hP hS hl
set_option maxHeartbeats 4000000 in
set_option maxRecDepth 100000 in
theorem c_L_part (w : WT) (l : Launch) (hw : WOK w) (hN : 99 ≤ wN w) {a0 : Int32} {a1 : Int32} {M : Mem} {L : Lng} {out : Int32} (hf : f_L_part a0 a1 M = some out) : Met l yL_part (Cond.code yL_part cL_part 11 (some .int) :: BG) ({ frames := 2, cells := 0, slots := 0, locals := 43 } : Room) (PRE w [.int a0, .int a1, .ref (wAd w 93), .ref (wAd w 94), .ref (wAd w 95), .ref (wAd w 96), .ref (wAd w 97), .ref (wAd w 98)] M L) (QI w out M L) 0 0 (wA w) := by
  refine kEnt hw (by decide +kernel) rfl (Nat.le_of_ble_eq_true rfl) ?_
  intro p e s m args below meth c C ls hl hP
  have hS : va_S (wA w) s.heap s.heap [] := va_S.rf
  have hl : lv_has ls 11 [(0, .int a0), (1, .int a1), (2, .ref (wAd w 93)), (3, .ref (wAd w 94)), (4, .ref (wAd w 95)), (5, .ref (wAd w 96)), (6, .ref (wAd w 97)), (7, .ref (wAd w 98))] := hl
  unfold f_L_part at hf
  refine lv_iconst (v := 0) C.1 C.2.1 dL_part_0 (by decide) ?_
  refine lv_istore (lv' := [(8, .int 0), (0, .int a0), (1, .int a1), (2, .ref (wAd w 93)), (3, .ref (wAd w 94)), (4, .ref (wAd w 95)), (5, .ref (wAd w 96)), (6, .ref (wAd w 97)), (7, .ref (wAd w 98))]) C.1 C.2.1 dL_part_1 hl (by decide) rfl (fun ls hl => ?_)
  refine lv_iload_n C.1 C.2.1 dL_part_3 rfl (lv_at hl 1 rfl) ?_
  refine lv_istore (lv' := [(9, .int a0), (8, .int 0), (0, .int a0), (1, .int a1), (2, .ref (wAd w 93)), (3, .ref (wAd w 94)), (4, .ref (wAd w 95)), (5, .ref (wAd w 96)), (6, .ref (wAd w 97)), (7, .ref (wAd w 98))]) C.1 C.2.1 dL_part_4 hl (by decide) rfl (fun ls hl => ?_)
  obtain ⟨o18, ho18, hf⟩ := ob hf
  refine loop_at (w_L_part_l6 C hN) FU _ o18 ho18 ?_ _ _ _ hP hS (lv_sub hl [2, 3, 4, 5, 6, 7, 8, 9, 1, 0] rfl)
  intro H locs ls hP hS hl
  refine lv_iload C.1 C.2.1 dL_part_139 (lv_at hl 0 rfl) ?_
  cases hf
  exact kri C hP hS dL_part_141
theorem dL_match_0 : decode cL_match 0 = .ok (.iconst 0, 1) := by decide +kernel
theorem dL_match_1 : decode cL_match 1 = .ok (.istore 8, 2) := by decide +kernel
theorem dL_match_3 : decode cL_match 3 = .ok (.iconst 0, 1) := by decide +kernel
theorem dL_match_4 : decode cL_match 4 = .ok (.istore 9, 2) := by decide +kernel
theorem dL_match_6 : decode cL_match 6 = .ok (.iload 9, 2) := by decide +kernel
theorem dL_match_8 : decode cL_match 8 = .ok (.aload_n 2, 1) := by decide +kernel
theorem dL_match_9 : decode cL_match 9 = .ok (.iconst 1, 1) := by decide +kernel
theorem dL_match_10 : decode cL_match 10 = .ok (.iaload, 1) := by decide +kernel
theorem dL_match_11 : decode cL_match 11 = .ok (.if_icmp .ge 14, 3) := by decide +kernel
theorem dL_match_14 : decode cL_match 14 = .ok (.aload_n 1, 1) := by decide +kernel
theorem dL_match_15 : decode cL_match 15 = .ok (.iload 9, 2) := by decide +kernel
theorem dL_match_17 : decode cL_match 17 = .ok (.iconst (-1), 1) := by decide +kernel
theorem dL_match_18 : decode cL_match 18 = .ok (.iastore, 1) := by decide +kernel
theorem dL_match_19 : decode cL_match 19 = .ok (.iinc 9 1, 3) := by decide +kernel
theorem dL_match_22 : decode cL_match 22 = .ok (.goto (-16), 3) := by decide +kernel
theorem dL_match_25 : decode cL_match 25 = .ok (.iconst 0, 1) := by decide +kernel
theorem dL_match_26 : decode cL_match 26 = .ok (.istore 9, 2) := by decide +kernel
theorem dL_match_28 : decode cL_match 28 = .ok (.iload 9, 2) := by decide +kernel
theorem dL_match_30 : decode cL_match 30 = .ok (.aload_n 2, 1) := by decide +kernel
theorem dL_match_31 : decode cL_match 31 = .ok (.iconst 1, 1) := by decide +kernel
theorem dL_match_32 : decode cL_match 32 = .ok (.iaload, 1) := by decide +kernel
theorem dL_match_33 : decode cL_match 33 = .ok (.if_icmp .ge 235, 3) := by decide +kernel
theorem dL_match_36 : decode cL_match 36 = .ok (.iconst (-1), 1) := by decide +kernel
theorem dL_match_37 : decode cL_match 37 = .ok (.istore 10, 2) := by decide +kernel
theorem dL_match_39 : decode cL_match 39 = .ok (.aload_n 2, 1) := by decide +kernel
theorem dL_match_40 : decode cL_match 40 = .ok (.iconst 1, 1) := by decide +kernel
theorem dL_match_41 : decode cL_match 41 = .ok (.iaload, 1) := by decide +kernel
theorem dL_match_42 : decode cL_match 42 = .ok (.iconst 1, 1) := by decide +kernel
theorem dL_match_43 : decode cL_match 43 = .ok (.isub, 1) := by decide +kernel
theorem dL_match_44 : decode cL_match 44 = .ok (.istore 11, 2) := by decide +kernel
theorem dL_match_46 : decode cL_match 46 = .ok (.iload 11, 2) := by decide +kernel
theorem dL_match_48 : decode cL_match 48 = .ok (.ifCond .lt 39, 3) := by decide +kernel
theorem dL_match_51 : decode cL_match 51 = .ok (.iload 8, 2) := by decide +kernel
theorem dL_match_53 : decode cL_match 53 = .ok (.iload 11, 2) := by decide +kernel
theorem dL_match_55 : decode cL_match 55 = .ok (.ishr, 1) := by decide +kernel
theorem dL_match_56 : decode cL_match 56 = .ok (.iconst 1, 1) := by decide +kernel
theorem dL_match_57 : decode cL_match 57 = .ok (.iand, 1) := by decide +kernel
theorem dL_match_58 : decode cL_match 58 = .ok (.ifCond .ne 23, 3) := by decide +kernel
theorem dL_match_61 : decode cL_match 61 = .ok (.iload 10, 2) := by decide +kernel
theorem dL_match_63 : decode cL_match 63 = .ok (.ifCond .lt 14, 3) := by decide +kernel
theorem dL_match_66 : decode cL_match 66 = .ok (.aload_n 0, 1) := by decide +kernel
theorem dL_match_67 : decode cL_match 67 = .ok (.iload 11, 2) := by decide +kernel
theorem dL_match_69 : decode cL_match 69 = .ok (.iaload, 1) := by decide +kernel
theorem dL_match_70 : decode cL_match 70 = .ok (.aload_n 0, 1) := by decide +kernel
theorem dL_match_71 : decode cL_match 71 = .ok (.iload 10, 2) := by decide +kernel
theorem dL_match_73 : decode cL_match 73 = .ok (.iaload, 1) := by decide +kernel
theorem dL_match_74 : decode cL_match 74 = .ok (.if_icmp .gt 7, 3) := by decide +kernel
theorem dL_match_77 : decode cL_match 77 = .ok (.iload 11, 2) := by decide +kernel
theorem dL_match_79 : decode cL_match 79 = .ok (.istore 10, 2) := by decide +kernel
theorem dL_match_81 : decode cL_match 81 = .ok (.iinc 11 (-1), 3) := by decide +kernel
theorem dL_match_84 : decode cL_match 84 = .ok (.goto (-38), 3) := by decide +kernel
theorem dL_match_87 : decode cL_match 87 = .ok (.iload 8, 2) := by decide +kernel
theorem dL_match_89 : decode cL_match 89 = .ok (.iconst 1, 1) := by decide +kernel
theorem dL_match_90 : decode cL_match 90 = .ok (.iload 10, 2) := by decide +kernel
theorem dL_match_92 : decode cL_match 92 = .ok (.ishl, 1) := by decide +kernel
theorem dL_match_93 : decode cL_match 93 = .ok (.ior, 1) := by decide +kernel
theorem dL_match_94 : decode cL_match 94 = .ok (.istore 8, 2) := by decide +kernel
theorem dL_match_96 : decode cL_match 96 = .ok (.iconst (-1), 1) := by decide +kernel
theorem dL_match_97 : decode cL_match 97 = .ok (.istore 11, 2) := by decide +kernel
theorem dL_match_99 : decode cL_match 99 = .ok (.iconst 0, 1) := by decide +kernel
theorem dL_match_100 : decode cL_match 100 = .ok (.istore 12, 2) := by decide +kernel
theorem dL_match_102 : decode cL_match 102 = .ok (.iload 12, 2) := by decide +kernel
theorem dL_match_104 : decode cL_match 104 = .ok (.aload_n 2, 1) := by decide +kernel
theorem dL_match_105 : decode cL_match 105 = .ok (.iconst 0, 1) := by decide +kernel
theorem dL_match_106 : decode cL_match 106 = .ok (.iaload, 1) := by decide +kernel
theorem dL_match_107 : decode cL_match 107 = .ok (.if_icmp .ge 149, 3) := by decide +kernel
theorem dL_match_110 : decode cL_match 110 = .ok (.iload 12, 2) := by decide +kernel
theorem dL_match_112 : decode cL_match 112 = .ok (.aload_n 0, 1) := by decide +kernel
theorem dL_match_113 : decode cL_match 113 = .ok (.iload 10, 2) := by decide +kernel
theorem dL_match_115 : decode cL_match 115 = .ok (.iaload, 1) := by decide +kernel
theorem dL_match_116 : decode cL_match 116 = .ok (.if_icmp .gt 140, 3) := by decide +kernel
theorem dL_match_119 : decode cL_match 119 = .ok (.aload 7, 2) := by decide +kernel
theorem dL_match_121 : decode cL_match 121 = .ok (.iload 12, 2) := by decide +kernel
theorem dL_match_123 : decode cL_match 123 = .ok (.iaload, 1) := by decide +kernel
theorem dL_match_124 : decode cL_match 124 = .ok (.iload 12, 2) := by decide +kernel
theorem dL_match_126 : decode cL_match 126 = .ok (.if_icmp .ne 124, 3) := by decide +kernel
theorem dL_match_129 : decode cL_match 129 = .ok (.iload 12, 2) := by decide +kernel
theorem dL_match_131 : decode cL_match 131 = .ok (.iconst 0, 1) := by decide +kernel
theorem dL_match_132 : decode cL_match 132 = .ok (.aload_n 2, 1) := by decide +kernel
theorem dL_match_133 : decode cL_match 133 = .ok (.aload_n 3, 1) := by decide +kernel
theorem dL_match_134 : decode cL_match 134 = .ok (.aload 4, 2) := by decide +kernel
theorem dL_match_136 : decode cL_match 136 = .ok (.aload 5, 2) := by decide +kernel
theorem dL_match_138 : decode cL_match 138 = .ok (.aload 6, 2) := by decide +kernel
theorem dL_match_140 : decode cL_match 140 = .ok (.aload 7, 2) := by decide +kernel
theorem dL_match_142 : decode cL_match 142 = .ok (.invokestatic 18, 3) := by decide +kernel
theorem dL_match_145 : decode cL_match 145 = .ok (.aload_n 0, 1) := by decide +kernel
theorem dL_match_146 : decode cL_match 146 = .ok (.iload 10, 2) := by decide +kernel
theorem dL_match_148 : decode cL_match 148 = .ok (.iaload, 1) := by decide +kernel
theorem dL_match_149 : decode cL_match 149 = .ok (.aload_n 3, 1) := by decide +kernel
theorem dL_match_150 : decode cL_match 150 = .ok (.bipush 7, 2) := by decide +kernel
theorem dL_match_152 : decode cL_match 152 = .ok (.iaload, 1) := by decide +kernel
theorem dL_match_153 : decode cL_match 153 = .ok (.isub, 1) := by decide +kernel
theorem dL_match_154 : decode cL_match 154 = .ok (.if_icmp .ge 6, 3) := by decide +kernel
theorem dL_match_157 : decode cL_match 157 = .ok (.goto 93, 3) := by decide +kernel
theorem dL_match_160 : decode cL_match 160 = .ok (.iconst 1, 1) := by decide +kernel
theorem dL_match_161 : decode cL_match 161 = .ok (.istore 13, 2) := by decide +kernel
theorem dL_match_163 : decode cL_match 163 = .ok (.iconst 0, 1) := by decide +kernel
theorem dL_match_164 : decode cL_match 164 = .ok (.istore 14, 2) := by decide +kernel
theorem dL_match_166 : decode cL_match 166 = .ok (.iload 14, 2) := by decide +kernel
theorem dL_match_168 : decode cL_match 168 = .ok (.aload_n 2, 1) := by decide +kernel
theorem dL_match_169 : decode cL_match 169 = .ok (.iconst 1, 1) := by decide +kernel
theorem dL_match_170 : decode cL_match 170 = .ok (.iaload, 1) := by decide +kernel
theorem dL_match_171 : decode cL_match 171 = .ok (.if_icmp .ge 30, 3) := by decide +kernel
theorem dL_match_174 : decode cL_match 174 = .ok (.iload 13, 2) := by decide +kernel
theorem dL_match_176 : decode cL_match 176 = .ok (.ifCond .eq 16, 3) := by decide +kernel
theorem dL_match_179 : decode cL_match 179 = .ok (.aload_n 1, 1) := by decide +kernel
theorem dL_match_180 : decode cL_match 180 = .ok (.iload 14, 2) := by decide +kernel
theorem dL_match_182 : decode cL_match 182 = .ok (.iaload, 1) := by decide +kernel
theorem dL_match_183 : decode cL_match 183 = .ok (.iload 12, 2) := by decide +kernel
theorem dL_match_185 : decode cL_match 185 = .ok (.if_icmp .eq 7, 3) := by decide +kernel
theorem dL_match_188 : decode cL_match 188 = .ok (.iconst 1, 1) := by decide +kernel
theorem dL_match_189 : decode cL_match 189 = .ok (.goto 4, 3) := by decide +kernel
theorem dL_match_192 : decode cL_match 192 = .ok (.iconst 0, 1) := by decide +kernel
theorem dL_match_193 : decode cL_match 193 = .ok (.istore 13, 2) := by decide +kernel
theorem dL_match_195 : decode cL_match 195 = .ok (.iinc 14 1, 3) := by decide +kernel
theorem dL_match_198 : decode cL_match 198 = .ok (.goto (-32), 3) := by decide +kernel
theorem dL_match_201 : decode cL_match 201 = .ok (.iload 13, 2) := by decide +kernel
theorem dL_match_203 : decode cL_match 203 = .ok (.ifCond .eq 47, 3) := by decide +kernel
theorem dL_match_206 : decode cL_match 206 = .ok (.iload 11, 2) := by decide +kernel
theorem dL_match_208 : decode cL_match 208 = .ok (.ifCond .lt 38, 3) := by decide +kernel
theorem dL_match_211 : decode cL_match 211 = .ok (.iload 12, 2) := by decide +kernel
theorem dL_match_213 : decode cL_match 213 = .ok (.iconst 2, 1) := by decide +kernel
theorem dL_match_214 : decode cL_match 214 = .ok (.aload_n 2, 1) := by decide +kernel
theorem dL_match_215 : decode cL_match 215 = .ok (.aload_n 3, 1) := by decide +kernel
theorem dL_match_216 : decode cL_match 216 = .ok (.aload 4, 2) := by decide +kernel
theorem dL_match_218 : decode cL_match 218 = .ok (.aload 5, 2) := by decide +kernel
theorem dL_match_220 : decode cL_match 220 = .ok (.aload 6, 2) := by decide +kernel
theorem dL_match_222 : decode cL_match 222 = .ok (.aload 7, 2) := by decide +kernel
theorem dL_match_224 : decode cL_match 224 = .ok (.invokestatic 18, 3) := by decide +kernel
theorem dL_match_227 : decode cL_match 227 = .ok (.iload 11, 2) := by decide +kernel
theorem dL_match_229 : decode cL_match 229 = .ok (.iconst 2, 1) := by decide +kernel
theorem dL_match_230 : decode cL_match 230 = .ok (.aload_n 2, 1) := by decide +kernel
theorem dL_match_231 : decode cL_match 231 = .ok (.aload_n 3, 1) := by decide +kernel
theorem dL_match_232 : decode cL_match 232 = .ok (.aload 4, 2) := by decide +kernel
theorem dL_match_234 : decode cL_match 234 = .ok (.aload 5, 2) := by decide +kernel
theorem dL_match_236 : decode cL_match 236 = .ok (.aload 6, 2) := by decide +kernel
theorem dL_match_238 : decode cL_match 238 = .ok (.aload 7, 2) := by decide +kernel
theorem dL_match_240 : decode cL_match 240 = .ok (.invokestatic 18, 3) := by decide +kernel
theorem dL_match_243 : decode cL_match 243 = .ok (.if_icmp .le 7, 3) := by decide +kernel
theorem dL_match_246 : decode cL_match 246 = .ok (.iload 12, 2) := by decide +kernel
theorem dL_match_248 : decode cL_match 248 = .ok (.istore 11, 2) := by decide +kernel
theorem dL_match_250 : decode cL_match 250 = .ok (.iinc 12 1, 3) := by decide +kernel
theorem dL_match_253 : decode cL_match 253 = .ok (.goto (-151), 3) := by decide +kernel
theorem dL_match_256 : decode cL_match 256 = .ok (.aload_n 1, 1) := by decide +kernel
theorem dL_match_257 : decode cL_match 257 = .ok (.iload 10, 2) := by decide +kernel
theorem dL_match_259 : decode cL_match 259 = .ok (.iload 11, 2) := by decide +kernel
theorem dL_match_261 : decode cL_match 261 = .ok (.iastore, 1) := by decide +kernel
theorem dL_match_262 : decode cL_match 262 = .ok (.iinc 9 1, 3) := by decide +kernel
theorem dL_match_265 : decode cL_match 265 = .ok (.goto (-237), 3) := by decide +kernel
theorem dL_match_268 : decode cL_match 268 = .ok (.return_, 1) := by decide +kernel
set_option maxHeartbeats 4000000 in
set_option maxRecDepth 100000 in
theorem w_L_match_l6 {g0 : Nat} {w : WT} {l : Launch} {p : Program} {e : Env} {s : State} {m : MethodId} {args : Array Value} {below : List Frame} {meth : Method} {c : Code} (C : KC w p s m args meth c cL_match 15 RL none) (hN : 99 ≤ wN w) (hg0 : isMa g0) (hgl : g0 < wN w) {v8 : Int32} {L : Lng} {Q : State → Prop} (z : Int32 × Mem) (o : (Int32 × Mem) ⊕ (Mem)) (hf : f_L_match_l6 g0 v8 z = some o) (hA : ∀ z, o = .inl z → AtL w p l e ({ frames := 3, cells := 0, slots := 0, locals := 73 } : Room) s m args below meth c Q 15 6 z.2 L [(0, .ref (wAd w 92)), (1, .ref (wAd w g0)), (2, .ref (wAd w 93)), (3, .ref (wAd w 94)), (4, .ref (wAd w 95)), (5, .ref (wAd w 96)), (6, .ref (wAd w 97)), (7, .ref (wAd w 98)), (8, .int v8), (9, .int z.1)] []) (hE : ∀ y, o = .inr y → AtL w p l e ({ frames := 3, cells := 0, slots := 0, locals := 73 } : Room) s m args below meth c Q 15 25 y L [(0, .ref (wAd w 92)), (1, .ref (wAd w g0)), (2, .ref (wAd w 93)), (3, .ref (wAd w 94)), (4, .ref (wAd w 95)), (5, .ref (wAd w 96)), (6, .ref (wAd w 97)), (7, .ref (wAd w 98)), (8, .int v8)] []) : AtL w p l e ({ frames := 3, cells := 0, slots := 0, locals := 73 } : Room) s m args below meth c Q 15 6 z.2 L [(0, .ref (wAd w 92)), (1, .ref (wAd w g0)), (2, .ref (wAd w 93)), (3, .ref (wAd w 94)), (4, .ref (wAd w 95)), (5, .ref (wAd w 96)), (6, .ref (wAd w 97)), (7, .ref (wAd w 98)), (8, .int v8), (9, .int z.1)] [] := by
  intro H locs ls hP hS hl
  unfold f_L_match_l6 at hf
  refine lv_iload C.1 C.2.1 dL_match_6 (lv_at hl 9 rfl) ?_
  refine lv_aload_n C.1 C.2.1 dL_match_8 rfl (lv_at hl 2 rfl) ?_
  refine lv_iconst (v := 1) C.1 C.2.1 dL_match_9 (by decide) ?_
  obtain ⟨x1, hx1, hf⟩ := ob hf
  refine k_iald C hP (C9 C (Nat.le_of_ble_eq_true rfl)) (ar_L93 w L _) hx1 dL_match_10 ?_
  refine lv_icmp_ge (tgt := 25) C.1 C.2.1 dL_match_11 (by decide) (fun c2 => ?_) (fun c2 => ?_)
  · have hf := (if_pos c2).symm.trans hf
    cases hf
    exact hE _ rfl _ _ _ hP hS (lv_sub hl [0, 1, 2, 3, 4, 5, 6, 7, 8] rfl)
  · have hf := (if_neg c2).symm.trans hf
    refine lv_aload_n C.1 C.2.1 dL_match_14 rfl (lv_at hl 1 rfl) ?_
    refine lv_iload C.1 C.2.1 dL_match_15 (lv_at hl 9 rfl) ?_
    refine lv_iconst (v := (-1)) C.1 C.2.1 dL_match_17 (by decide) ?_
    obtain ⟨M3, hM3, hf⟩ := ob hf
    refine k_iast C hP hS hgl (ar_Ma hg0 w L) hM3 dL_match_18 (fun H locs hP hS => ?_)
    refine lv_iinc (v := (z.1 + 1)) (lv' := [(9, .int (z.1 + 1)), (0, .ref (wAd w 92)), (1, .ref (wAd w g0)), (2, .ref (wAd w 93)), (3, .ref (wAd w 94)), (4, .ref (wAd w 95)), (5, .ref (wAd w 96)), (6, .ref (wAd w 97)), (7, .ref (wAd w 98)), (8, .int v8)]) C.1 C.2.1 dL_match_19 hl (k := 9) rfl rfl (by decide) rfl (fun ls hl => ?_)
    refine lv_goto (tgt := 6) C.1 C.2.1 dL_match_22 (by decide) ?_
    cases hf
    exact hA _ rfl _ _ _ hP hS (lv_sub hl [1, 2, 3, 4, 5, 6, 7, 8, 9, 0] rfl)
set_option maxHeartbeats 4000000 in
set_option maxRecDepth 100000 in
theorem w_L_match_j81 {g0 : Nat} {w : WT} {l : Launch} {p : Program} {e : Env} {s : State} {m : MethodId} {args : Array Value} {below : List Frame} {meth : Method} {c : Code} (C : KC w p s m args meth c cL_match 15 RL none) (hN : 99 ≤ wN w) (hg0 : isMa g0) (hgl : g0 < wN w) {v8 : Int32} {v9 : Int32} {v10 : Int32} {v11 : Int32} {M : Mem} {L : Lng} {Q : State → Prop} {o : (Int32 × Int32) ⊕ (Int32)} (hf : f_L_match_j81 g0 v8 v9 v10 v11 M = some o) (hA : ∀ z, o = .inl z → AtL w p l e ({ frames := 3, cells := 0, slots := 0, locals := 73 } : Room) s m args below meth c Q 15 46 M L [(0, .ref (wAd w 92)), (1, .ref (wAd w g0)), (2, .ref (wAd w 93)), (3, .ref (wAd w 94)), (4, .ref (wAd w 95)), (5, .ref (wAd w 96)), (6, .ref (wAd w 97)), (7, .ref (wAd w 98)), (8, .int v8), (9, .int v9), (10, .int z.1), (11, .int z.2)] []) (hE : ∀ y, o = .inr y → AtL w p l e ({ frames := 3, cells := 0, slots := 0, locals := 73 } : Room) s m args below meth c Q 15 87 M L [(0, .ref (wAd w 92)), (1, .ref (wAd w g0)), (2, .ref (wAd w 93)), (3, .ref (wAd w 94)), (4, .ref (wAd w 95)), (5, .ref (wAd w 96)), (6, .ref (wAd w 97)), (7, .ref (wAd w 98)), (8, .int v8), (9, .int v9), (10, .int y)] []) : AtL w p l e ({ frames := 3, cells := 0, slots := 0, locals := 73 } : Room) s m args below meth c Q 15 81 M L [(0, .ref (wAd w 92)), (1, .ref (wAd w g0)), (2, .ref (wAd w 93)), (3, .ref (wAd w 94)), (4, .ref (wAd w 95)), (5, .ref (wAd w 96)), (6, .ref (wAd w 97)), (7, .ref (wAd w 98)), (8, .int v8), (9, .int v9), (10, .int v10), (11, .int v11)] [] := by
  intro H locs ls hP hS hl
  unfold f_L_match_j81 at hf
  refine lv_iinc (v := (v11 + (-1))) (lv' := [(11, .int (v11 + (-1))), (0, .ref (wAd w 92)), (1, .ref (wAd w g0)), (2, .ref (wAd w 93)), (3, .ref (wAd w 94)), (4, .ref (wAd w 95)), (5, .ref (wAd w 96)), (6, .ref (wAd w 97)), (7, .ref (wAd w 98)), (8, .int v8), (9, .int v9), (10, .int v10)]) C.1 C.2.1 dL_match_81 hl (k := 11) rfl rfl (by decide) rfl (fun ls hl => ?_)
  refine lv_goto (tgt := 46) C.1 C.2.1 dL_match_84 (by decide) ?_
  cases hf
  exact hA _ rfl _ _ _ hP hS (lv_sub hl [1, 2, 3, 4, 5, 6, 7, 8, 9, 10, 11, 0] rfl)
set_option maxHeartbeats 4000000 in
set_option maxRecDepth 100000 in
theorem w_L_match_j77 {g0 : Nat} {w : WT} {l : Launch} {p : Program} {e : Env} {s : State} {m : MethodId} {args : Array Value} {below : List Frame} {meth : Method} {c : Code} (C : KC w p s m args meth c cL_match 15 RL none) (hN : 99 ≤ wN w) (hg0 : isMa g0) (hgl : g0 < wN w) {v8 : Int32} {v9 : Int32} {v11 : Int32} {M : Mem} {L : Lng} {Q : State → Prop} {o : (Int32 × Int32) ⊕ (Int32)} (hf : f_L_match_j77 g0 v8 v9 v11 M = some o) (hA : ∀ z, o = .inl z → AtL w p l e ({ frames := 3, cells := 0, slots := 0, locals := 73 } : Room) s m args below meth c Q 15 46 M L [(0, .ref (wAd w 92)), (1, .ref (wAd w g0)), (2, .ref (wAd w 93)), (3, .ref (wAd w 94)), (4, .ref (wAd w 95)), (5, .ref (wAd w 96)), (6, .ref (wAd w 97)), (7, .ref (wAd w 98)), (8, .int v8), (9, .int v9), (10, .int z.1), (11, .int z.2)] []) (hE : ∀ y, o = .inr y → AtL w p l e ({ frames := 3, cells := 0, slots := 0, locals := 73 } : Room) s m args below meth c Q 15 87 M L [(0, .ref (wAd w 92)), (1, .ref (wAd w g0)), (2, .ref (wAd w 93)), (3, .ref (wAd w 94)), (4, .ref (wAd w 95)), (5, .ref (wAd w 96)), (6, .ref (wAd w 97)), (7, .ref (wAd w 98)), (8, .int v8), (9, .int v9), (10, .int y)] []) : AtL w p l e ({ frames := 3, cells := 0, slots := 0, locals := 73 } : Room) s m args below meth c Q 15 77 M L [(0, .ref (wAd w 92)), (1, .ref (wAd w g0)), (2, .ref (wAd w 93)), (3, .ref (wAd w 94)), (4, .ref (wAd w 95)), (5, .ref (wAd w 96)), (6, .ref (wAd w 97)), (7, .ref (wAd w 98)), (8, .int v8), (9, .int v9), (11, .int v11)] [] := by
  intro H locs ls hP hS hl
  unfold f_L_match_j77 at hf
  refine lv_iload C.1 C.2.1 dL_match_77 (lv_at hl 10 rfl) ?_
  refine lv_istore (lv' := [(10, .int v11), (0, .ref (wAd w 92)), (1, .ref (wAd w g0)), (2, .ref (wAd w 93)), (3, .ref (wAd w 94)), (4, .ref (wAd w 95)), (5, .ref (wAd w 96)), (6, .ref (wAd w 97)), (7, .ref (wAd w 98)), (8, .int v8), (9, .int v9), (11, .int v11)]) C.1 C.2.1 dL_match_79 hl (by decide) rfl (fun ls hl => ?_)
  exact w_L_match_j81 C hN hg0 hgl hf hA hE _ _ _ hP hS (lv_sub hl [1, 2, 3, 4, 5, 6, 7, 8, 9, 10, 0, 11] rfl)
set_option maxHeartbeats 4000000 in
set_option maxRecDepth 100000 in
theorem w_L_match_l46 {g0 : Nat} {w : WT} {l : Launch} {p : Program} {e : Env} {s : State} {m : MethodId} {args : Array Value} {below : List Frame} {meth : Method} {c : Code} (C : KC w p s m args meth c cL_match 15 RL none) (hN : 99 ≤ wN w) (hg0 : isMa g0) (hgl : g0 < wN w) {v8 : Int32} {v9 : Int32} {M : Mem} {L : Lng} {Q : State → Prop} (z : Int32 × Int32) (o : (Int32 × Int32) ⊕ (Int32)) (hf : f_L_match_l46 g0 v8 v9 M z = some o) (hA : ∀ z, o = .inl z → AtL w p l e ({ frames := 3, cells := 0, slots := 0, locals := 73 } : Room) s m args below meth c Q 15 46 M L [(0, .ref (wAd w 92)), (1, .ref (wAd w g0)), (2, .ref (wAd w 93)), (3, .ref (wAd w 94)), (4, .ref (wAd w 95)), (5, .ref (wAd w 96)), (6, .ref (wAd w 97)), (7, .ref (wAd w 98)), (8, .int v8), (9, .int v9), (10, .int z.1), (11, .int z.2)] []) (hE : ∀ y, o = .inr y → AtL w p l e ({ frames := 3, cells := 0, slots := 0, locals := 73 } : Room) s m args below meth c Q 15 87 M L [(0, .ref (wAd w 92)), (1, .ref (wAd w g0)), (2, .ref (wAd w 93)), (3, .ref (wAd w 94)), (4, .ref (wAd w 95)), (5, .ref (wAd w 96)), (6, .ref (wAd w 97)), (7, .ref (wAd w 98)), (8, .int v8), (9, .int v9), (10, .int y)] []) : AtL w p l e ({ frames := 3, cells := 0, slots := 0, locals := 73 } : Room) s m args below meth c Q 15 46 M L [(0, .ref (wAd w 92)), (1, .ref (wAd w g0)), (2, .ref (wAd w 93)), (3, .ref (wAd w 94)), (4, .ref (wAd w 95)), (5, .ref (wAd w 96)), (6, .ref (wAd w 97)), (7, .ref (wAd w 98)), (8, .int v8), (9, .int v9), (10, .int z.1), (11, .int z.2)] [] := by
  intro H locs ls hP hS hl
  unfold f_L_match_l46 at hf
  refine lv_iload C.1 C.2.1 dL_match_46 (lv_at hl 11 rfl) ?_
  refine lv_if_lt (tgt := 87) C.1 C.2.1 dL_match_48 (by decide) (fun c8 => ?_) (fun c8 => ?_)
  · have hf := (if_pos c8).symm.trans hf
    cases hf
    exact hE _ rfl _ _ _ hP hS (lv_sub hl [0, 1, 2, 3, 4, 5, 6, 7, 8, 9, 10] rfl)
  · have hf := (if_neg c8).symm.trans hf
    refine lv_iload C.1 C.2.1 dL_match_51 (lv_at hl 8 rfl) ?_
    refine lv_iload C.1 C.2.1 dL_match_53 (lv_at hl 11 rfl) ?_
    refine lv_ishr C.1 C.2.1 dL_match_55 ?_
    refine lv_iconst (v := 1) C.1 C.2.1 dL_match_56 (by decide) ?_
    refine lv_iand C.1 C.2.1 dL_match_57 ?_
    refine lv_if_ne (tgt := 81) C.1 C.2.1 dL_match_58 (by decide) (fun c9 => ?_) (fun c9 => ?_)
    · have hf := (if_neg c9).symm.trans hf
      exact w_L_match_j81 C hN hg0 hgl hf hA hE _ _ _ hP hS hl
    · have hf := (if_pos c9).symm.trans hf
      refine lv_iload C.1 C.2.1 dL_match_61 (lv_at hl 10 rfl) ?_
      refine lv_if_lt (tgt := 77) C.1 C.2.1 dL_match_63 (by decide) (fun c10 => ?_) (fun c10 => ?_)
      · have hf := (if_pos c10).symm.trans hf
        exact w_L_match_j77 C hN hg0 hgl hf hA hE _ _ _ hP hS (lv_sub hl [0, 1, 2, 3, 4, 5, 6, 7, 8, 9, 11] rfl)
      · have hf := (if_neg c10).symm.trans hf
        refine lv_aload_n C.1 C.2.1 dL_match_66 rfl (lv_at hl 0 rfl) ?_
        refine lv_iload C.1 C.2.1 dL_match_67 (lv_at hl 11 rfl) ?_
        obtain ⟨x11, hx11, hf⟩ := ob hf
        refine k_iald C hP (C9 C (Nat.le_of_ble_eq_true rfl)) (ar_L92 w L _) hx11 dL_match_69 ?_
        refine lv_aload_n C.1 C.2.1 dL_match_70 rfl (lv_at hl 0 rfl) ?_
        refine lv_iload C.1 C.2.1 dL_match_71 (lv_at hl 10 rfl) ?_
        obtain ⟨x12, hx12, hf⟩ := ob hf
        refine k_iald C hP (C9 C (Nat.le_of_ble_eq_true rfl)) (ar_L92 w L _) hx12 dL_match_73 ?_
        refine lv_icmp_gt (tgt := 81) C.1 C.2.1 dL_match_74 (by decide) (fun c13 => ?_) (fun c13 => ?_)
        · have hf := (if_pos c13).symm.trans hf
          exact w_L_match_j81 C hN hg0 hgl hf hA hE _ _ _ hP hS hl
        · have hf := (if_neg c13).symm.trans hf
          exact w_L_match_j77 C hN hg0 hgl hf hA hE _ _ _ hP hS (lv_sub hl [0, 1, 2, 3, 4, 5, 6, 7, 8, 9, 11] rfl)
set_option maxHeartbeats 4000000 in
set_option maxRecDepth 100000 in
theorem w_L_match_j250 {g0 : Nat} {w : WT} {l : Launch} {p : Program} {e : Env} {s : State} {m : MethodId} {args : Array Value} {below : List Frame} {meth : Method} {c : Code} (C : KC w p s m args meth c cL_match 15 RL none) (hN : 99 ≤ wN w) (hg0 : isMa g0) (hgl : g0 < wN w) {v8 : Int32} {v9 : Int32} {v10 : Int32} {v11 : Int32} {v12 : Int32} {M : Mem} {L : Lng} {Q : State → Prop} {o : (Int32 × Int32) ⊕ (Int32)} (hf : f_L_match_j250 g0 v8 v9 v10 v11 v12 M = some o) (hA : ∀ z, o = .inl z → AtL w p l e ({ frames := 3, cells := 0, slots := 0, locals := 73 } : Room) s m args below meth c Q 15 102 M L [(0, .ref (wAd w 92)), (1, .ref (wAd w g0)), (2, .ref (wAd w 93)), (3, .ref (wAd w 94)), (4, .ref (wAd w 95)), (5, .ref (wAd w 96)), (6, .ref (wAd w 97)), (7, .ref (wAd w 98)), (8, .int v8), (9, .int v9), (10, .int v10), (11, .int z.1), (12, .int z.2)] []) (hE : ∀ y, o = .inr y → AtL w p l e ({ frames := 3, cells := 0, slots := 0, locals := 73 } : Room) s m args below meth c Q 15 256 M L [(0, .ref (wAd w 92)), (1, .ref (wAd w g0)), (2, .ref (wAd w 93)), (3, .ref (wAd w 94)), (4, .ref (wAd w 95)), (5, .ref (wAd w 96)), (6, .ref (wAd w 97)), (7, .ref (wAd w 98)), (8, .int v8), (9, .int v9), (10, .int v10), (11, .int y)] []) : AtL w p l e ({ frames := 3, cells := 0, slots := 0, locals := 73 } : Room) s m args below meth c Q 15 250 M L [(0, .ref (wAd w 92)), (1, .ref (wAd w g0)), (2, .ref (wAd w 93)), (3, .ref (wAd w 94)), (4, .ref (wAd w 95)), (5, .ref (wAd w 96)), (6, .ref (wAd w 97)), (7, .ref (wAd w 98)), (8, .int v8), (9, .int v9), (10, .int v10), (11, .int v11), (12, .int v12)] [] := by
  intro H locs ls hP hS hl
  unfold f_L_match_j250 at hf
  refine lv_iinc (v := (v12 + 1)) (lv' := [(12, .int (v12 + 1)), (0, .ref (wAd w 92)), (1, .ref (wAd w g0)), (2, .ref (wAd w 93)), (3, .ref (wAd w 94)), (4, .ref (wAd w 95)), (5, .ref (wAd w 96)), (6, .ref (wAd w 97)), (7, .ref (wAd w 98)), (8, .int v8), (9, .int v9), (10, .int v10), (11, .int v11)]) C.1 C.2.1 dL_match_250 hl (k := 12) rfl rfl (by decide) rfl (fun ls hl => ?_)
  refine lv_goto (tgt := 102) C.1 C.2.1 dL_match_253 (by decide) ?_
  cases hf
  exact hA _ rfl _ _ _ hP hS (lv_sub hl [1, 2, 3, 4, 5, 6, 7, 8, 9, 10, 11, 12, 0] rfl)
set_option maxHeartbeats 4000000 in
set_option maxRecDepth 100000 in
theorem w_L_match_j193 {g0 : Nat} {w : WT} {l : Launch} {p : Program} {e : Env} {s : State} {m : MethodId} {args : Array Value} {below : List Frame} {meth : Method} {c : Code} (C : KC w p s m args meth c cL_match 15 RL none) (hN : 99 ≤ wN w) (hg0 : isMa g0) (hgl : g0 < wN w) {v8 : Int32} {v9 : Int32} {v10 : Int32} {v11 : Int32} {v12 : Int32} {v14 : Int32} {s0 : Int32} {M : Mem} {L : Lng} {Q : State → Prop} {o : (Int32 × Int32) ⊕ (Int32)} (hf : f_L_match_j193 g0 v8 v9 v10 v11 v12 v14 s0 M = some o) (hA : ∀ z, o = .inl z → AtL w p l e ({ frames := 3, cells := 0, slots := 0, locals := 73 } : Room) s m args below meth c Q 15 166 M L [(0, .ref (wAd w 92)), (1, .ref (wAd w g0)), (2, .ref (wAd w 93)), (3, .ref (wAd w 94)), (4, .ref (wAd w 95)), (5, .ref (wAd w 96)), (6, .ref (wAd w 97)), (7, .ref (wAd w 98)), (8, .int v8), (9, .int v9), (10, .int v10), (11, .int v11), (12, .int v12), (13, .int z.1), (14, .int z.2)] []) (hE : ∀ y, o = .inr y → AtL w p l e ({ frames := 3, cells := 0, slots := 0, locals := 73 } : Room) s m args below meth c Q 15 201 M L [(0, .ref (wAd w 92)), (1, .ref (wAd w g0)), (2, .ref (wAd w 93)), (3, .ref (wAd w 94)), (4, .ref (wAd w 95)), (5, .ref (wAd w 96)), (6, .ref (wAd w 97)), (7, .ref (wAd w 98)), (8, .int v8), (9, .int v9), (10, .int v10), (11, .int v11), (12, .int v12), (13, .int y)] []) : AtL w p l e ({ frames := 3, cells := 0, slots := 0, locals := 73 } : Room) s m args below meth c Q 15 193 M L [(0, .ref (wAd w 92)), (1, .ref (wAd w g0)), (2, .ref (wAd w 93)), (3, .ref (wAd w 94)), (4, .ref (wAd w 95)), (5, .ref (wAd w 96)), (6, .ref (wAd w 97)), (7, .ref (wAd w 98)), (8, .int v8), (9, .int v9), (10, .int v10), (11, .int v11), (12, .int v12), (14, .int v14)] [.int s0] := by
  intro H locs ls hP hS hl
  unfold f_L_match_j193 at hf
  refine lv_istore (lv' := [(13, .int s0), (0, .ref (wAd w 92)), (1, .ref (wAd w g0)), (2, .ref (wAd w 93)), (3, .ref (wAd w 94)), (4, .ref (wAd w 95)), (5, .ref (wAd w 96)), (6, .ref (wAd w 97)), (7, .ref (wAd w 98)), (8, .int v8), (9, .int v9), (10, .int v10), (11, .int v11), (12, .int v12), (14, .int v14)]) C.1 C.2.1 dL_match_193 hl (by decide) rfl (fun ls hl => ?_)
  refine lv_iinc (v := (v14 + 1)) (lv' := [(14, .int (v14 + 1)), (13, .int s0), (0, .ref (wAd w 92)), (1, .ref (wAd w g0)), (2, .ref (wAd w 93)), (3, .ref (wAd w 94)), (4, .ref (wAd w 95)), (5, .ref (wAd w 96)), (6, .ref (wAd w 97)), (7, .ref (wAd w 98)), (8, .int v8), (9, .int v9), (10, .int v10), (11, .int v11), (12, .int v12)]) C.1 C.2.1 dL_match_195 hl (k := 14) rfl rfl (by decide) rfl (fun ls hl => ?_)
  refine lv_goto (tgt := 166) C.1 C.2.1 dL_match_198 (by decide) ?_
  cases hf
  exact hA _ rfl _ _ _ hP hS (lv_sub hl [2, 3, 4, 5, 6, 7, 8, 9, 10, 11, 12, 13, 14, 1, 0] rfl)
set_option maxHeartbeats 4000000 in
set_option maxRecDepth 100000 in
theorem w_L_match_j192 {g0 : Nat} {w : WT} {l : Launch} {p : Program} {e : Env} {s : State} {m : MethodId} {args : Array Value} {below : List Frame} {meth : Method} {c : Code} (C : KC w p s m args meth c cL_match 15 RL none) (hN : 99 ≤ wN w) (hg0 : isMa g0) (hgl : g0 < wN w) {v8 : Int32} {v9 : Int32} {v10 : Int32} {v11 : Int32} {v12 : Int32} {v14 : Int32} {M : Mem} {L : Lng} {Q : State → Prop} {o : (Int32 × Int32) ⊕ (Int32)} (hf : f_L_match_j192 g0 v8 v9 v10 v11 v12 v14 M = some o) (hA : ∀ z, o = .inl z → AtL w p l e ({ frames := 3, cells := 0, slots := 0, locals := 73 } : Room) s m args below meth c Q 15 166 M L [(0, .ref (wAd w 92)), (1, .ref (wAd w g0)), (2, .ref (wAd w 93)), (3, .ref (wAd w 94)), (4, .ref (wAd w 95)), (5, .ref (wAd w 96)), (6, .ref (wAd w 97)), (7, .ref (wAd w 98)), (8, .int v8), (9, .int v9), (10, .int v10), (11, .int v11), (12, .int v12), (13, .int z.1), (14, .int z.2)] []) (hE : ∀ y, o = .inr y → AtL w p l e ({ frames := 3, cells := 0, slots := 0, locals := 73 } : Room) s m args below meth c Q 15 201 M L [(0, .ref (wAd w 92)), (1, .ref (wAd w g0)), (2, .ref (wAd w 93)), (3, .ref (wAd w 94)), (4, .ref (wAd w 95)), (5, .ref (wAd w 96)), (6, .ref (wAd w 97)), (7, .ref (wAd w 98)), (8, .int v8), (9, .int v9), (10, .int v10), (11, .int v11), (12, .int v12), (13, .int y)] []) : AtL w p l e ({ frames := 3, cells := 0, slots := 0, locals := 73 } : Room) s m args below meth c Q 15 192 M L [(0, .ref (wAd w 92)), (1, .ref (wAd w g0)), (2, .ref (wAd w 93)), (3, .ref (wAd w 94)), (4, .ref (wAd w 95)), (5, .ref (wAd w 96)), (6, .ref (wAd w 97)), (7, .ref (wAd w 98)), (8, .int v8), (9, .int v9), (10, .int v10), (11, .int v11), (12, .int v12), (14, .int v14)] [] := by
  intro H locs ls hP hS hl
  unfold f_L_match_j192 at hf
  refine lv_iconst (v := 0) C.1 C.2.1 dL_match_192 (by decide) ?_
  exact w_L_match_j193 C hN hg0 hgl hf hA hE _ _ _ hP hS hl
set_option maxHeartbeats 4000000 in
set_option maxRecDepth 100000 in
theorem w_L_match_l166 {g0 : Nat} {w : WT} {l : Launch} {p : Program} {e : Env} {s : State} {m : MethodId} {args : Array Value} {below : List Frame} {meth : Method} {c : Code} (C : KC w p s m args meth c cL_match 15 RL none) (hN : 99 ≤ wN w) (hg0 : isMa g0) (hgl : g0 < wN w) {v8 : Int32} {v9 : Int32} {v10 : Int32} {v11 : Int32} {v12 : Int32} {M : Mem} {L : Lng} {Q : State → Prop} (z : Int32 × Int32) (o : (Int32 × Int32) ⊕ (Int32)) (hf : f_L_match_l166 g0 v8 v9 v10 v11 v12 M z = some o) (hA : ∀ z, o = .inl z → AtL w p l e ({ frames := 3, cells := 0, slots := 0, locals := 73 } : Room) s m args below meth c Q 15 166 M L [(0, .ref (wAd w 92)), (1, .ref (wAd w g0)), (2, .ref (wAd w 93)), (3, .ref (wAd w 94)), (4, .ref (wAd w 95)), (5, .ref (wAd w 96)), (6, .ref (wAd w 97)), (7, .ref (wAd w 98)), (8, .int v8), (9, .int v9), (10, .int v10), (11, .int v11), (12, .int v12), (13, .int z.1), (14, .int z.2)] []) (hE : ∀ y, o = .inr y → AtL w p l e ({ frames := 3, cells := 0, slots := 0, locals := 73 } : Room) s m args below meth c Q 15 201 M L [(0, .ref (wAd w 92)), (1, .ref (wAd w g0)), (2, .ref (wAd w 93)), (3, .ref (wAd w 94)), (4, .ref (wAd w 95)), (5, .ref (wAd w 96)), (6, .ref (wAd w 97)), (7, .ref (wAd w 98)), (8, .int v8), (9, .int v9), (10, .int v10), (11, .int v11), (12, .int v12), (13, .int y)] []) : AtL w p l e ({ frames := 3, cells := 0, slots := 0, locals := 73 } : Room) s m args below meth c Q 15 166 M L [(0, .ref (wAd w 92)), (1, .ref (wAd w g0)), (2, .ref (wAd w 93)), (3, .ref (wAd w 94)), (4, .ref (wAd w 95)), (5, .ref (wAd w 96)), (6, .ref (wAd w 97)), (7, .ref (wAd w 98)), (8, .int v8), (9, .int v9), (10, .int v10), (11, .int v11), (12, .int v12), (13, .int z.1), (14, .int z.2)] [] := by
  intro H locs ls hP hS hl
  unfold f_L_match_l166 at hf
  refine lv_iload C.1 C.2.1 dL_match_166 (lv_at hl 14 rfl) ?_
  refine lv_aload_n C.1 C.2.1 dL_match_168 rfl (lv_at hl 2 rfl) ?_
  refine lv_iconst (v := 1) C.1 C.2.1 dL_match_169 (by decide) ?_
  obtain ⟨x25, hx25, hf⟩ := ob hf
  refine k_iald C hP (C9 C (Nat.le_of_ble_eq_true rfl)) (ar_L93 w L _) hx25 dL_match_170 ?_
  refine lv_icmp_ge (tgt := 201) C.1 C.2.1 dL_match_171 (by decide) (fun c26 => ?_) (fun c26 => ?_)
  · have hf := (if_pos c26).symm.trans hf
    cases hf
    exact hE _ rfl _ _ _ hP hS (lv_sub hl [0, 1, 2, 3, 4, 5, 6, 7, 8, 9, 10, 11, 12, 13] rfl)
  · have hf := (if_neg c26).symm.trans hf
    refine lv_iload C.1 C.2.1 dL_match_174 (lv_at hl 13 rfl) ?_
    refine lv_if_eq (tgt := 192) C.1 C.2.1 dL_match_176 (by decide) (fun c27 => ?_) (fun c27 => ?_)
    · have hf := (if_pos c27).symm.trans hf
      exact w_L_match_j192 C hN hg0 hgl hf hA hE _ _ _ hP hS (lv_sub hl [0, 1, 2, 3, 4, 5, 6, 7, 8, 9, 10, 11, 12, 14] rfl)
    · have hf := (if_neg c27).symm.trans hf
      refine lv_aload_n C.1 C.2.1 dL_match_179 rfl (lv_at hl 1 rfl) ?_
      refine lv_iload C.1 C.2.1 dL_match_180 (lv_at hl 14 rfl) ?_
      obtain ⟨x28, hx28, hf⟩ := ob hf
      refine k_iald C hP hgl (ar_Ma hg0 w L _) hx28 dL_match_182 ?_
      refine lv_iload C.1 C.2.1 dL_match_183 (lv_at hl 12 rfl) ?_
      refine lv_icmp_eq (tgt := 192) C.1 C.2.1 dL_match_185 (by decide) (fun c29 => ?_) (fun c29 => ?_)
      · have hf := (if_pos c29).symm.trans hf
        exact w_L_match_j192 C hN hg0 hgl hf hA hE _ _ _ hP hS (lv_sub hl [0, 1, 2, 3, 4, 5, 6, 7, 8, 9, 10, 11, 12, 14] rfl)
      · have hf := (if_neg c29).symm.trans hf
        refine lv_iconst (v := 1) C.1 C.2.1 dL_match_188 (by decide) ?_
        refine lv_goto (tgt := 193) C.1 C.2.1 dL_match_189 (by decide) ?_
        exact w_L_match_j193 C hN hg0 hgl hf hA hE _ _ _ hP hS (lv_sub hl [0, 1, 2, 3, 4, 5, 6, 7, 8, 9, 10, 11, 12, 14] rfl)
set_option maxHeartbeats 4000000 in
set_option maxRecDepth 100000 in
theorem w_L_match_j246 {g0 : Nat} {w : WT} {l : Launch} {p : Program} {e : Env} {s : State} {m : MethodId} {args : Array Value} {below : List Frame} {meth : Method} {c : Code} (C : KC w p s m args meth c cL_match 15 RL none) (hN : 99 ≤ wN w) (hg0 : isMa g0) (hgl : g0 < wN w) {v8 : Int32} {v9 : Int32} {v10 : Int32} {v12 : Int32} {M : Mem} {L : Lng} {Q : State → Prop} {o : (Int32 × Int32) ⊕ (Int32)} (hf : f_L_match_j246 g0 v8 v9 v10 v12 M = some o) (hA : ∀ z, o = .inl z → AtL w p l e ({ frames := 3, cells := 0, slots := 0, locals := 73 } : Room) s m args below meth c Q 15 102 M L [(0, .ref (wAd w 92)), (1, .ref (wAd w g0)), (2, .ref (wAd w 93)), (3, .ref (wAd w 94)), (4, .ref (wAd w 95)), (5, .ref (wAd w 96)), (6, .ref (wAd w 97)), (7, .ref (wAd w 98)), (8, .int v8), (9, .int v9), (10, .int v10), (11, .int z.1), (12, .int z.2)] []) (hE : ∀ y, o = .inr y → AtL w p l e ({ frames := 3, cells := 0, slots := 0, locals := 73 } : Room) s m args below meth c Q 15 256 M L [(0, .ref (wAd w 92)), (1, .ref (wAd w g0)), (2, .ref (wAd w 93)), (3, .ref (wAd w 94)), (4, .ref (wAd w 95)), (5, .ref (wAd w 96)), (6, .ref (wAd w 97)), (7, .ref (wAd w 98)), (8, .int v8), (9, .int v9), (10, .int v10), (11, .int y)] []) : AtL w p l e ({ frames := 3, cells := 0, slots := 0, locals := 73 } : Room) s m args below meth c Q 15 246 M L [(0, .ref (wAd w 92)), (1, .ref (wAd w g0)), (2, .ref (wAd w 93)), (3, .ref (wAd w 94)), (4, .ref (wAd w 95)), (5, .ref (wAd w 96)), (6, .ref (wAd w 97)), (7, .ref (wAd w 98)), (8, .int v8), (9, .int v9), (10, .int v10), (12, .int v12)] [] := by
  intro H locs ls hP hS hl
  unfold f_L_match_j246 at hf
  refine lv_iload C.1 C.2.1 dL_match_246 (lv_at hl 11 rfl) ?_
  refine lv_istore (lv' := [(11, .int v12), (0, .ref (wAd w 92)), (1, .ref (wAd w g0)), (2, .ref (wAd w 93)), (3, .ref (wAd w 94)), (4, .ref (wAd w 95)), (5, .ref (wAd w 96)), (6, .ref (wAd w 97)), (7, .ref (wAd w 98)), (8, .int v8), (9, .int v9), (10, .int v10), (12, .int v12)]) C.1 C.2.1 dL_match_248 hl (by decide) rfl (fun ls hl => ?_)
  exact w_L_match_j250 C hN hg0 hgl hf hA hE _ _ _ hP hS (lv_sub hl [1, 2, 3, 4, 5, 6, 7, 8, 9, 10, 11, 0, 12] rfl)
set_option maxHeartbeats 4000000 in
set_option maxRecDepth 100000 in
theorem w_L_match_l102 {g0 : Nat} {w : WT} {l : Launch} {p : Program} {e : Env} {s : State} {m : MethodId} {args : Array Value} {below : List Frame} {meth : Method} {c : Code} (C : KC w p s m args meth c cL_match 15 RL none) (hN : 99 ≤ wN w) (hg0 : isMa g0) (hgl : g0 < wN w) {v8 : Int32} {v9 : Int32} {v10 : Int32} {M : Mem} {L : Lng} {Q : State → Prop} (z : Int32 × Int32) (o : (Int32 × Int32) ⊕ (Int32)) (hf : f_L_match_l102 g0 v8 v9 v10 M z = some o) (hA : ∀ z, o = .inl z → AtL w p l e ({ frames := 3, cells := 0, slots := 0, locals := 73 } : Room) s m args below meth c Q 15 102 M L [(0, .ref (wAd w 92)), (1, .ref (wAd w g0)), (2, .ref (wAd w 93)), (3, .ref (wAd w 94)), (4, .ref (wAd w 95)), (5, .ref (wAd w 96)), (6, .ref (wAd w 97)), (7, .ref (wAd w 98)), (8, .int v8), (9, .int v9), (10, .int v10), (11, .int z.1), (12, .int z.2)] []) (hE : ∀ y, o = .inr y → AtL w p l e ({ frames := 3, cells := 0, slots := 0, locals := 73 } : Room) s m args below meth c Q 15 256 M L [(0, .ref (wAd w 92)), (1, .ref (wAd w g0)), (2, .ref (wAd w 93)), (3, .ref (wAd w 94)), (4, .ref (wAd w 95)), (5, .ref (wAd w 96)), (6, .ref (wAd w 97)), (7, .ref (wAd w 98)), (8, .int v8), (9, .int v9), (10, .int v10), (11, .int y)] []) : AtL w p l e ({ frames := 3, cells := 0, slots := 0, locals := 73 } : Room) s m args below meth c Q 15 102 M L [(0, .ref (wAd w 92)), (1, .ref (wAd w g0)), (2, .ref (wAd w 93)), (3, .ref (wAd w 94)), (4, .ref (wAd w 95)), (5, .ref (wAd w 96)), (6, .ref (wAd w 97)), (7, .ref (wAd w 98)), (8, .int v8), (9, .int v9), (10, .int v10), (11, .int z.1), (12, .int z.2)] [] := by
  intro H locs ls hP hS hl
  unfold f_L_match_l102 at hf
  refine lv_iload C.1 C.2.1 dL_match_102 (lv_at hl 12 rfl) ?_
  refine lv_aload_n C.1 C.2.1 dL_match_104 rfl (lv_at hl 2 rfl) ?_
  refine lv_iconst (v := 0) C.1 C.2.1 dL_match_105 (by decide) ?_
  obtain ⟨x15, hx15, hf⟩ := ob hf
  refine k_iald C hP (C9 C (Nat.le_of_ble_eq_true rfl)) (ar_L93 w L _) hx15 dL_match_106 ?_
  refine lv_icmp_ge (tgt := 256) C.1 C.2.1 dL_match_107 (by decide) (fun c16 => ?_) (fun c16 => ?_)
  · have hf := (if_pos c16).symm.trans hf
    cases hf
    exact hE _ rfl _ _ _ hP hS (lv_sub hl [0, 1, 2, 3, 4, 5, 6, 7, 8, 9, 10, 11] rfl)
  · have hf := (if_neg c16).symm.trans hf
    refine lv_iload C.1 C.2.1 dL_match_110 (lv_at hl 12 rfl) ?_
    refine lv_aload_n C.1 C.2.1 dL_match_112 rfl (lv_at hl 0 rfl) ?_
    refine lv_iload C.1 C.2.1 dL_match_113 (lv_at hl 10 rfl) ?_
    obtain ⟨x17, hx17, hf⟩ := ob hf
    refine k_iald C hP (C9 C (Nat.le_of_ble_eq_true rfl)) (ar_L92 w L _) hx17 dL_match_115 ?_
    refine lv_icmp_gt (tgt := 256) C.1 C.2.1 dL_match_116 (by decide) (fun c18 => ?_) (fun c18 => ?_)
    · have hf := (if_pos c18).symm.trans hf
      cases hf
      exact hE _ rfl _ _ _ hP hS (lv_sub hl [0, 1, 2, 3, 4, 5, 6, 7, 8, 9, 10, 11] rfl)
    · have hf := (if_neg c18).symm.trans hf
      refine lv_aload C.1 C.2.1 dL_match_119 (lv_at hl 7 rfl) ?_
      refine lv_iload C.1 C.2.1 dL_match_121 (lv_at hl 12 rfl) ?_
      obtain ⟨x19, hx19, hf⟩ := ob hf
      refine k_iald C hP (Nat.lt_of_lt_of_le (Nat.le_of_ble_eq_true rfl) hN) (ar_L98 w L _) hx19 dL_match_123 ?_
      refine lv_iload C.1 C.2.1 dL_match_124 (lv_at hl 12 rfl) ?_
      refine lv_icmp_ne (tgt := 250) C.1 C.2.1 dL_match_126 (by decide) (fun c20 => ?_) (fun c20 => ?_)
      · have hf := (if_neg c20).symm.trans hf
        exact w_L_match_j250 C hN hg0 hgl hf hA hE _ _ _ hP hS hl
      · have hf := (if_pos c20).symm.trans hf
        refine lv_iload C.1 C.2.1 dL_match_129 (lv_at hl 12 rfl) ?_
        refine lv_iconst (v := 0) C.1 C.2.1 dL_match_131 (by decide) ?_
        refine lv_aload_n C.1 C.2.1 dL_match_132 rfl (lv_at hl 2 rfl) ?_
        refine lv_aload_n C.1 C.2.1 dL_match_133 rfl (lv_at hl 3 rfl) ?_
        refine lv_aload C.1 C.2.1 dL_match_134 (lv_at hl 4 rfl) ?_
        refine lv_aload C.1 C.2.1 dL_match_136 (lv_at hl 5 rfl) ?_
        refine lv_aload C.1 C.2.1 dL_match_138 (lv_at hl 6 rfl) ?_
        refine lv_aload C.1 C.2.1 dL_match_140 (lv_at hl 7 rfl) ?_
        obtain ⟨r21, hr21, hf⟩ := ob hf
        refine kci (kS (As := [.int z.2, .int 0, .ref (wAd w 93), .ref (wAd w 94), .ref (wAd w 95), .ref (wAd w 96), .ref (wAd w 97), .ref (wAd w 98)]) (rest := []) C hl.1 hP hS (c_L_part w l C.2.2.2.2.2.2.2.2 hN (L := L) hr21) (gS q402 q403 q0 q404) hd_L_part ⟨rfl, rfl⟩ ⟨Nat.le_of_ble_eq_true rfl, Nat.le_of_ble_eq_true rfl⟩ rfl rfl (Nat.le_of_ble_eq_true rfl) dL_match_142 ⟨Nat.zero_le _, Nat.zero_le _⟩) hS (fun H locs hP hS => ?_)
        refine lv_aload_n C.1 C.2.1 dL_match_145 rfl (lv_at hl 0 rfl) ?_
        refine lv_iload C.1 C.2.1 dL_match_146 (lv_at hl 10 rfl) ?_
        obtain ⟨x22, hx22, hf⟩ := ob hf
        refine k_iald C hP (C9 C (Nat.le_of_ble_eq_true rfl)) (ar_L92 w L _) hx22 dL_match_148 ?_
        refine lv_aload_n C.1 C.2.1 dL_match_149 rfl (lv_at hl 3 rfl) ?_
        refine lv_bipush (v := 7) C.1 C.2.1 dL_match_150 (by decide) ?_
        obtain ⟨x23, hx23, hf⟩ := ob hf
        refine k_iald C hP (C9 C (Nat.le_of_ble_eq_true rfl)) (ar_L94 w L _) hx23 dL_match_152 ?_
        refine lv_isub C.1 C.2.1 dL_match_153 ?_
        refine lv_icmp_ge (tgt := 160) C.1 C.2.1 dL_match_154 (by decide) (fun c24 => ?_) (fun c24 => ?_)
        · have hf := (if_pos c24).symm.trans hf
          refine lv_iconst (v := 1) C.1 C.2.1 dL_match_160 (by decide) ?_
          refine lv_istore (lv' := [(13, .int 1), (0, .ref (wAd w 92)), (1, .ref (wAd w g0)), (2, .ref (wAd w 93)), (3, .ref (wAd w 94)), (4, .ref (wAd w 95)), (5, .ref (wAd w 96)), (6, .ref (wAd w 97)), (7, .ref (wAd w 98)), (8, .int v8), (9, .int v9), (10, .int v10), (11, .int z.1), (12, .int z.2)]) C.1 C.2.1 dL_match_161 hl (by decide) rfl (fun ls hl => ?_)
          refine lv_iconst (v := 0) C.1 C.2.1 dL_match_163 (by decide) ?_
          refine lv_istore (lv' := [(14, .int 0), (13, .int 1), (0, .ref (wAd w 92)), (1, .ref (wAd w g0)), (2, .ref (wAd w 93)), (3, .ref (wAd w 94)), (4, .ref (wAd w 95)), (5, .ref (wAd w 96)), (6, .ref (wAd w 97)), (7, .ref (wAd w 98)), (8, .int v8), (9, .int v9), (10, .int v10), (11, .int z.1), (12, .int z.2)]) C.1 C.2.1 dL_match_164 hl (by decide) rfl (fun ls hl => ?_)
          obtain ⟨o30, ho30, hf⟩ := ob hf
          refine loop_at (w_L_match_l166 C hN hg0 hgl) FU _ o30 ho30 ?_ _ _ _ hP hS (lv_sub hl [2, 3, 4, 5, 6, 7, 8, 9, 10, 11, 12, 13, 14, 1, 0] rfl)
          intro H locs ls hP hS hl
          refine lv_iload C.1 C.2.1 dL_match_201 (lv_at hl 13 rfl) ?_
          refine lv_if_eq (tgt := 250) C.1 C.2.1 dL_match_203 (by decide) (fun c31 => ?_) (fun c31 => ?_)
          · have hf := (if_pos c31).symm.trans hf
            exact w_L_match_j250 C hN hg0 hgl hf hA hE _ _ _ hP hS (lv_sub hl [0, 1, 2, 3, 4, 5, 6, 7, 8, 9, 10, 11, 12] rfl)
          · have hf := (if_neg c31).symm.trans hf
            refine lv_iload C.1 C.2.1 dL_match_206 (lv_at hl 11 rfl) ?_
            refine lv_if_lt (tgt := 246) C.1 C.2.1 dL_match_208 (by decide) (fun c32 => ?_) (fun c32 => ?_)
            · have hf := (if_pos c32).symm.trans hf
              exact w_L_match_j246 C hN hg0 hgl hf hA hE _ _ _ hP hS (lv_sub hl [0, 1, 2, 3, 4, 5, 6, 7, 8, 9, 10, 12] rfl)
            · have hf := (if_neg c32).symm.trans hf
              refine lv_iload C.1 C.2.1 dL_match_211 (lv_at hl 12 rfl) ?_
              refine lv_iconst (v := 2) C.1 C.2.1 dL_match_213 (by decide) ?_
              refine lv_aload_n C.1 C.2.1 dL_match_214 rfl (lv_at hl 2 rfl) ?_
              refine lv_aload_n C.1 C.2.1 dL_match_215 rfl (lv_at hl 3 rfl) ?_
              refine lv_aload C.1 C.2.1 dL_match_216 (lv_at hl 4 rfl) ?_
              refine lv_aload C.1 C.2.1 dL_match_218 (lv_at hl 5 rfl) ?_
              refine lv_aload C.1 C.2.1 dL_match_220 (lv_at hl 6 rfl) ?_
              refine lv_aload C.1 C.2.1 dL_match_222 (lv_at hl 7 rfl) ?_
              obtain ⟨r33, hr33, hf⟩ := ob hf
              refine kci (kS (As := [.int z.2, .int 2, .ref (wAd w 93), .ref (wAd w 94), .ref (wAd w 95), .ref (wAd w 96), .ref (wAd w 97), .ref (wAd w 98)]) (rest := []) C hl.1 hP hS (c_L_part w l C.2.2.2.2.2.2.2.2 hN (L := L) hr33) (gS q402 q403 q0 q404) hd_L_part ⟨rfl, rfl⟩ ⟨Nat.le_of_ble_eq_true rfl, Nat.le_of_ble_eq_true rfl⟩ rfl rfl (Nat.le_of_ble_eq_true rfl) dL_match_224 ⟨Nat.zero_le _, Nat.zero_le _⟩) hS (fun H locs hP hS => ?_)
              refine lv_iload C.1 C.2.1 dL_match_227 (lv_at hl 11 rfl) ?_
              refine lv_iconst (v := 2) C.1 C.2.1 dL_match_229 (by decide) ?_
              refine lv_aload_n C.1 C.2.1 dL_match_230 rfl (lv_at hl 2 rfl) ?_
              refine lv_aload_n C.1 C.2.1 dL_match_231 rfl (lv_at hl 3 rfl) ?_
              refine lv_aload C.1 C.2.1 dL_match_232 (lv_at hl 4 rfl) ?_
              refine lv_aload C.1 C.2.1 dL_match_234 (lv_at hl 5 rfl) ?_
              refine lv_aload C.1 C.2.1 dL_match_236 (lv_at hl 6 rfl) ?_
              refine lv_aload C.1 C.2.1 dL_match_238 (lv_at hl 7 rfl) ?_
              obtain ⟨r34, hr34, hf⟩ := ob hf
              refine kci (kS (As := [.int z.1, .int 2, .ref (wAd w 93), .ref (wAd w 94), .ref (wAd w 95), .ref (wAd w 96), .ref (wAd w 97), .ref (wAd w 98)]) (rest := [.int r33]) C hl.1 hP hS (c_L_part w l C.2.2.2.2.2.2.2.2 hN (L := L) hr34) (gS q402 q403 q0 q404) hd_L_part ⟨rfl, rfl⟩ ⟨Nat.le_of_ble_eq_true rfl, Nat.le_of_ble_eq_true rfl⟩ rfl rfl (Nat.le_of_ble_eq_true rfl) dL_match_240 ⟨Nat.zero_le _, Nat.zero_le _⟩) hS (fun H locs hP hS => ?_)
              refine lv_icmp_le (tgt := 250) C.1 C.2.1 dL_match_243 (by decide) (fun c35 => ?_) (fun c35 => ?_)
              · have hf := (if_pos c35).symm.trans hf
                exact w_L_match_j250 C hN hg0 hgl hf hA hE _ _ _ hP hS (lv_sub hl [0, 1, 2, 3, 4, 5, 6, 7, 8, 9, 10, 11, 12] rfl)
              · have hf := (if_neg c35).symm.trans hf
                exact w_L_match_j246 C hN hg0 hgl hf hA hE _ _ _ hP hS (lv_sub hl [0, 1, 2, 3, 4, 5, 6, 7, 8, 9, 10, 12] rfl)
        · have hf := (if_neg c24).symm.trans hf
          refine lv_goto (tgt := 250) C.1 C.2.1 dL_match_157 (by decide) ?_
          exact w_L_match_j250 C hN hg0 hgl hf hA hE _ _ _ hP hS hl
set_option maxHeartbeats 4000000 in
set_option maxRecDepth 100000 in
theorem w_L_match_j256 {g0 : Nat} {w : WT} {l : Launch} {p : Program} {e : Env} {s : State} {m : MethodId} {args : Array Value} {below : List Frame} {meth : Method} {c : Code} (C : KC w p s m args meth c cL_match 15 RL none) (hN : 99 ≤ wN w) (hg0 : isMa g0) (hgl : g0 < wN w) {v8 : Int32} {v9 : Int32} {v10 : Int32} {v11 : Int32} {M : Mem} {L : Lng} {Q : State → Prop} {o : (Int32 × Int32 × Mem) ⊕ (Mem)} (hf : f_L_match_j256 g0 v8 v9 v10 v11 M = some o) (hA : ∀ z, o = .inl z → AtL w p l e ({ frames := 3, cells := 0, slots := 0, locals := 73 } : Room) s m args below meth c Q 15 28 z.2.2 L [(0, .ref (wAd w 92)), (1, .ref (wAd w g0)), (2, .ref (wAd w 93)), (3, .ref (wAd w 94)), (4, .ref (wAd w 95)), (5, .ref (wAd w 96)), (6, .ref (wAd w 97)), (7, .ref (wAd w 98)), (8, .int z.1), (9, .int z.2.1)] []) (hE : ∀ y, o = .inr y → AtL w p l e ({ frames := 3, cells := 0, slots := 0, locals := 73 } : Room) s m args below meth c Q 15 268 y L [] []) : AtL w p l e ({ frames := 3, cells := 0, slots := 0, locals := 73 } : Room) s m args below meth c Q 15 256 M L [(0, .ref (wAd w 92)), (1, .ref (wAd w g0)), (2, .ref (wAd w 93)), (3, .ref (wAd w 94)), (4, .ref (wAd w 95)), (5, .ref (wAd w 96)), (6, .ref (wAd w 97)), (7, .ref (wAd w 98)), (8, .int v8), (9, .int v9), (10, .int v10), (11, .int v11)] [] := by
  intro H locs ls hP hS hl
  unfold f_L_match_j256 at hf
  refine lv_aload_n C.1 C.2.1 dL_match_256 rfl (lv_at hl 1 rfl) ?_
  refine lv_iload C.1 C.2.1 dL_match_257 (lv_at hl 10 rfl) ?_
  refine lv_iload C.1 C.2.1 dL_match_259 (lv_at hl 11 rfl) ?_
  obtain ⟨M37, hM37, hf⟩ := ob hf
  refine k_iast C hP hS hgl (ar_Ma hg0 w L) hM37 dL_match_261 (fun H locs hP hS => ?_)
  refine lv_iinc (v := (v9 + 1)) (lv' := [(9, .int (v9 + 1)), (0, .ref (wAd w 92)), (1, .ref (wAd w g0)), (2, .ref (wAd w 93)), (3, .ref (wAd w 94)), (4, .ref (wAd w 95)), (5, .ref (wAd w 96)), (6, .ref (wAd w 97)), (7, .ref (wAd w 98)), (8, .int v8), (10, .int v10), (11, .int v11)]) C.1 C.2.1 dL_match_262 hl (k := 9) rfl rfl (by decide) rfl (fun ls hl => ?_)
  refine lv_goto (tgt := 28) C.1 C.2.1 dL_match_265 (by decide) ?_
  cases hf
  exact hA _ rfl _ _ _ hP hS (lv_sub hl [1, 2, 3, 4, 5, 6, 7, 8, 9, 0] rfl)
set_option maxHeartbeats 4000000 in
set_option maxRecDepth 100000 in
theorem w_L_match_l28 {g0 : Nat} {w : WT} {l : Launch} {p : Program} {e : Env} {s : State} {m : MethodId} {args : Array Value} {below : List Frame} {meth : Method} {c : Code} (C : KC w p s m args meth c cL_match 15 RL none) (hN : 99 ≤ wN w) (hg0 : isMa g0) (hgl : g0 < wN w) {L : Lng} {Q : State → Prop} (z : Int32 × Int32 × Mem) (o : (Int32 × Int32 × Mem) ⊕ (Mem)) (hf : f_L_match_l28 g0 z = some o) (hA : ∀ z, o = .inl z → AtL w p l e ({ frames := 3, cells := 0, slots := 0, locals := 73 } : Room) s m args below meth c Q 15 28 z.2.2 L [(0, .ref (wAd w 92)), (1, .ref (wAd w g0)), (2, .ref (wAd w 93)), (3, .ref (wAd w 94)), (4, .ref (wAd w 95)), (5, .ref (wAd w 96)), (6, .ref (wAd w 97)), (7, .ref (wAd w 98)), (8, .int z.1), (9, .int z.2.1)] []) (hE : ∀ y, o = .inr y → AtL w p l e ({ frames := 3, cells := 0, slots := 0, locals := 73 } : Room) s m args below meth c Q 15 268 y L [] []) : AtL w p l e ({ frames := 3, cells := 0, slots := 0, locals := 73 } : Room) s m args below meth c Q 15 28 z.2.2 L [(0, .ref (wAd w 92)), (1, .ref (wAd w g0)), (2, .ref (wAd w 93)), (3, .ref (wAd w 94)), (4, .ref (wAd w 95)), (5, .ref (wAd w 96)), (6, .ref (wAd w 97)), (7, .ref (wAd w 98)), (8, .int z.1), (9, .int z.2.1)] [] := by
  intro H locs ls hP hS hl
  unfold f_L_match_l28 at hf
  refine lv_iload C.1 C.2.1 dL_match_28 (lv_at hl 9 rfl) ?_
  refine lv_aload_n C.1 C.2.1 dL_match_30 rfl (lv_at hl 2 rfl) ?_
  refine lv_iconst (v := 1) C.1 C.2.1 dL_match_31 (by decide) ?_
  obtain ⟨x5, hx5, hf⟩ := ob hf
  refine k_iald C hP (C9 C (Nat.le_of_ble_eq_true rfl)) (ar_L93 w L _) hx5 dL_match_32 ?_
  refine lv_icmp_ge (tgt := 268) C.1 C.2.1 dL_match_33 (by decide) (fun c6 => ?_) (fun c6 => ?_)
  · have hf := (if_pos c6).symm.trans hf
    cases hf
    exact hE _ rfl _ _ _ hP hS (lv_sub hl [] rfl)
  · have hf := (if_neg c6).symm.trans hf
    refine lv_iconst (v := (-1)) C.1 C.2.1 dL_match_36 (by decide) ?_
    refine lv_istore (lv' := [(10, .int (-1)), (0, .ref (wAd w 92)), (1, .ref (wAd w g0)), (2, .ref (wAd w 93)), (3, .ref (wAd w 94)), (4, .ref (wAd w 95)), (5, .ref (wAd w 96)), (6, .ref (wAd w 97)), (7, .ref (wAd w 98)), (8, .int z.1), (9, .int z.2.1)]) C.1 C.2.1 dL_match_37 hl (by decide) rfl (fun ls hl => ?_)
    refine lv_aload_n C.1 C.2.1 dL_match_39 rfl (lv_at hl 3 rfl) ?_
    refine lv_iconst (v := 1) C.1 C.2.1 dL_match_40 (by decide) ?_
    obtain ⟨x7, hx7, hf⟩ := ob hf
    refine k_iald C hP (C9 C (Nat.le_of_ble_eq_true rfl)) (ar_L93 w L _) hx7 dL_match_41 ?_
    refine lv_iconst (v := 1) C.1 C.2.1 dL_match_42 (by decide) ?_
    refine lv_isub C.1 C.2.1 dL_match_43 ?_
    refine lv_istore (lv' := [(11, .int (x7 - 1)), (10, .int (-1)), (0, .ref (wAd w 92)), (1, .ref (wAd w g0)), (2, .ref (wAd w 93)), (3, .ref (wAd w 94)), (4, .ref (wAd w 95)), (5, .ref (wAd w 96)), (6, .ref (wAd w 97)), (7, .ref (wAd w 98)), (8, .int z.1), (9, .int z.2.1)]) C.1 C.2.1 dL_match_44 hl (by decide) rfl (fun ls hl => ?_)
    obtain ⟨o14, ho14, hf⟩ := ob hf
    refine loop_at (w_L_match_l46 C hN hg0 hgl) FU _ o14 ho14 ?_ _ _ _ hP hS (lv_sub hl [2, 3, 4, 5, 6, 7, 8, 9, 10, 11, 1, 0] rfl)
    intro H locs ls hP hS hl
    refine lv_iload C.1 C.2.1 dL_match_87 (lv_at hl 8 rfl) ?_
    refine lv_iconst (v := 1) C.1 C.2.1 dL_match_89 (by decide) ?_
    refine lv_iload C.1 C.2.1 dL_match_90 (lv_at hl 10 rfl) ?_
    refine lv_ishl C.1 C.2.1 dL_match_92 ?_
    refine lv_ior C.1 C.2.1 dL_match_93 ?_
    refine lv_istore (lv' := [(8, .int (z.1 ||| ((1 : Int32) <<< (o14 &&& 31)))), (0, .ref (wAd w 92)), (1, .ref (wAd w g0)), (2, .ref (wAd w 93)), (3, .ref (wAd w 94)), (4, .ref (wAd w 95)), (5, .ref (wAd w 96)), (6, .ref (wAd w 97)), (7, .ref (wAd w 98)), (9, .int z.2.1), (10, .int o14)]) C.1 C.2.1 dL_match_94 hl (by decide) rfl (fun ls hl => ?_)
    refine lv_iconst (v := (-1)) C.1 C.2.1 dL_match_96 (by decide) ?_
    refine lv_istore (lv' := [(11, .int (-1)), (8, .int (z.1 ||| ((1 : Int32) <<< (o14 &&& 31)))), (0, .ref (wAd w 92)), (1, .ref (wAd w g0)), (2, .ref (wAd w 93)), (3, .ref (wAd w 94)), (4, .ref (wAd w 95)), (5, .ref (wAd w 96)), (6, .ref (wAd w 97)), (7, .ref (wAd w 98)), (9, .int z.2.1), (10, .int o14)]) C.1 C.2.1 dL_match_97 hl (by decide) rfl (fun ls hl => ?_)
    refine lv_iconst (v := 0) C.1 C.2.1 dL_match_99 (by decide) ?_
    refine lv_istore (lv' := [(12, .int 0), (11, .int (-1)), (8, .int (z.1 ||| ((1 : Int32) <<< (o14 &&& 31)))), (0, .ref (wAd w 92)), (1, .ref (wAd w g0)), (2, .ref (wAd w 93)), (3, .ref (wAd w 94)), (4, .ref (wAd w 95)), (5, .ref (wAd w 96)), (6, .ref (wAd w 97)), (7, .ref (wAd w 98)), (9, .int z.2.1), (10, .int o14)]) C.1 C.2.1 dL_match_100 hl (by decide) rfl (fun ls hl => ?_)
    obtain ⟨o36, ho36, hf⟩ := ob hf
    refine loop_at (w_L_match_l102 C hN hg0 hgl) FU _ o36 ho36 ?_ _ _ _ hP hS (lv_sub hl [3, 4, 5, 6, 7, 8, 9, 10, 2, 11, 12, 1, 0] rfl)
    intro H locs ls hP hS hl
    exact w_L_match_j256 C hN hg0 hgl hf hA hE _ _ _ hP hS hl
set_option maxHeartbeats 4000000 in
set_option maxRecDepth 100000 in
theorem c_L_match (w : WT) (l : Launch) (hw : WOK w) {g0 : Nat} (hN : 99 ≤ wN w) (hg0 : isMa g0) (hgl : g0 < wN w) {M : Mem} {L : Lng} {out : Mem} (hf : f_L_match g0 M = some out) : Met l yL_match (Cond.code yL_match cL_match 15 none :: BG) ({ frames := 3, cells := 0, slots := 0, locals := 73 } : Room) (PRE w [.ref (wAd w 92), .ref (wAd w g0), .ref (wAd w 93), .ref (wAd w 94), .ref (wAd w 95), .ref (wAd w 96), .ref (wAd w 97), .ref (wAd w 98)] M L) (QV w out L) 0 0 (wA w) := by
  refine kEnt hw (by decide +kernel) rfl (Nat.le_of_ble_eq_true rfl) ?_
  intro p e s m args below meth c C ls hl hP
  have hS : va_S (wA w) s.heap s.heap [] := va_S.rf
  have hl : lv_has ls 15 [(0, .ref (wAd w 92)), (1, .ref (wAd w g0)), (2, .ref (wAd w 93)), (3, .ref (wAd w 94)), (4, .ref (wAd w 95)), (5, .ref (wAd w 96)), (6, .ref (wAd w 97)), (7, .ref (wAd w 98))] := hl
  unfold f_L_match at hf
  refine lv_iconst (v := 0) C.1 C.2.1 dL_match_0 (by decide) ?_
  refine lv_istore (lv' := [(8, .int 0), (0, .ref (wAd w 92)), (1, .ref (wAd w g0)), (2, .ref (wAd w 93)), (3, .ref (wAd w 94)), (4, .ref (wAd w 95)), (5, .ref (wAd w 96)), (6, .ref (wAd w 97)), (7, .ref (wAd w 98))]) C.1 C.2.1 dL_match_1 hl (by decide) rfl (fun ls hl => ?_)
  refine lv_iconst (v := 0) C.1 C.2.1 dL_match_3 (by decide) ?_
  refine lv_istore (lv' := [(9, .int 0), (8, .int 0), (0, .ref (wAd w 92)), (1, .ref (wAd w g0)), (2, .ref (wAd w 93)), (3, .ref (wAd w 94)), (4, .ref (wAd w 95)), (5, .ref (wAd w 96)), (6, .ref (wAd w 97)), (7, .ref (wAd w 98))]) C.1 C.2.1 dL_match_4 hl (by decide) rfl (fun ls hl => ?_)
  obtain ⟨o4, ho4, hf⟩ := ob hf
  refine loop_at (w_L_match_l6 C hN hg0 hgl) FU _ o4 ho4 ?_ _ _ _ hP hS (lv_sub hl [2, 3, 4, 5, 6, 7, 8, 9, 1, 0] rfl)
  intro H locs ls hP hS hl
  refine lv_iconst (v := 0) C.1 C.2.1 dL_match_25 (by decide) ?_
  refine lv_istore (lv' := [(9, .int 0), (0, .ref (wAd w 92)), (1, .ref (wAd w g0)), (2, .ref (wAd w 93)), (3, .ref (wAd w 94)), (4, .ref (wAd w 95)), (5, .ref (wAd w 96)), (6, .ref (wAd w 97)), (7, .ref (wAd w 98)), (8, .int 0)]) C.1 C.2.1 dL_match_26 hl (by decide) rfl (fun ls hl => ?_)
  obtain ⟨o38, ho38, hf⟩ := ob hf
  refine loop_at (w_L_match_l28 C hN hg0 hgl) FU _ o38 ho38 ?_ _ _ _ hP hS (lv_sub hl [1, 2, 3, 4, 5, 6, 7, 8, 9, 0] rfl)
  intro H locs ls hP hS hl
  cases hf
  exact krv C hP hS dL_match_268
theorem dL_number_0 : decode cL_number 0 = .ok (.iconst (-1), 1) := by decide +kernel
theorem dL_number_1 : decode cL_number 1 = .ok (.istore_n 2, 1) := by decide +kernel
theorem dL_number_2 : decode cL_number 2 = .ok (.iconst 0, 1) := by decide +kernel
theorem dL_number_3 : decode cL_number 3 = .ok (.istore_n 3, 1) := by decide +kernel
theorem dL_number_4 : decode cL_number 4 = .ok (.iload_n 3, 1) := by decide +kernel
theorem dL_number_5 : decode cL_number 5 = .ok (.iload_n 0, 1) := by decide +kernel
theorem dL_number_6 : decode cL_number 6 = .ok (.if_icmp .gt 24, 3) := by decide +kernel
theorem dL_number_9 : decode cL_number 9 = .ok (.iload_n 2, 1) := by decide +kernel
theorem dL_number_10 : decode cL_number 10 = .ok (.aload_n 1, 1) := by decide +kernel
theorem dL_number_11 : decode cL_number 11 = .ok (.iload_n 3, 1) := by decide +kernel
theorem dL_number_12 : decode cL_number 12 = .ok (.iaload, 1) := by decide +kernel
theorem dL_number_13 : decode cL_number 13 = .ok (.iload_n 3, 1) := by decide +kernel
theorem dL_number_14 : decode cL_number 14 = .ok (.if_icmp .ne 7, 3) := by decide +kernel
theorem dL_number_17 : decode cL_number 17 = .ok (.iconst 1, 1) := by decide +kernel
theorem dL_number_18 : decode cL_number 18 = .ok (.goto 4, 3) := by decide +kernel
theorem dL_number_21 : decode cL_number 21 = .ok (.iconst 0, 1) := by decide +kernel
theorem dL_number_22 : decode cL_number 22 = .ok (.iadd, 1) := by decide +kernel
theorem dL_number_23 : decode cL_number 23 = .ok (.istore_n 2, 1) := by decide +kernel
theorem dL_number_24 : decode cL_number 24 = .ok (.iinc 3 1, 3) := by decide +kernel
theorem dL_number_27 : decode cL_number 27 = .ok (.goto (-23), 3) := by decide +kernel
theorem dL_number_30 : decode cL_number 30 = .ok (.iload_n 2, 1) := by decide +kernel
theorem dL_number_31 : decode cL_number 31 = .ok (.ireturn, 1) := by decide +kernel
set_option maxHeartbeats 4000000 in
set_option maxRecDepth 100000 in
theorem w_L_number_j22 {w : WT} {l : Launch} {p : Program} {e : Env} {s : State} {m : MethodId} {args : Array Value} {below : List Frame} {meth : Method} {c : Code} (C : KC w p s m args meth c cL_number 4 RL (some .int)) (hN : 99 ≤ wN w) {v0 : Int32} {v3 : Int32} {s0 : Int32} {s1 : Int32} {M : Mem} {L : Lng} {Q : State → Prop} {o : (Int32 × Int32) ⊕ (Int32)} (hf : f_L_number_j22 v0 v3 s0 s1 M = some o) (hA : ∀ z, o = .inl z → AtL w p l e ({ frames := 0, cells := 0, slots := 0, locals := 0 } : Room) s m args below meth c Q 4 4 M L [(0, .int v0), (1, .ref (wAd w 98)), (2, .int z.1), (3, .int z.2)] []) (hE : ∀ y, o = .inr y → AtL w p l e ({ frames := 0, cells := 0, slots := 0, locals := 0 } : Room) s m args below meth c Q 4 30 M L [(2, .int y)] []) : AtL w p l e ({ frames := 0, cells := 0, slots := 0, locals := 0 } : Room) s m args below meth c Q 4 22 M L [(0, .int v0), (1, .ref (wAd w 98)), (3, .int v3)] [.int s1, .int s0] := by
  intro H locs ls hP hS hl
  unfold f_L_number_j22 at hf
  refine lv_iadd C.1 C.2.1 dL_number_22 ?_
  refine lv_istore_n (lv' := [(2, .int (s0 + s1)), (0, .int v0), (1, .ref (wAd w 98)), (3, .int v3)]) C.1 C.2.1 dL_number_23 rfl hl (by decide) rfl (fun ls hl => ?_)
  refine lv_iinc (v := (v3 + 1)) (lv' := [(3, .int (v3 + 1)), (2, .int (s0 + s1)), (0, .int v0), (1, .ref (wAd w 98))]) C.1 C.2.1 dL_number_24 hl (k := 3) rfl rfl (by decide) rfl (fun ls hl => ?_)
  refine lv_goto (tgt := 4) C.1 C.2.1 dL_number_27 (by decide) ?_
  cases hf
  exact hA _ rfl _ _ _ hP hS (lv_sub hl [2, 3, 1, 0] rfl)
set_option maxHeartbeats 4000000 in
set_option maxRecDepth 100000 in
theorem w_L_number_l4 {w : WT} {l : Launch} {p : Program} {e : Env} {s : State} {m : MethodId} {args : Array Value} {below : List Frame} {meth : Method} {c : Code} (C : KC w p s m args meth c cL_number 4 RL (some .int)) (hN : 99 ≤ wN w) {v0 : Int32} {M : Mem} {L : Lng} {Q : State → Prop} (z : Int32 × Int32) (o : (Int32 × Int32) ⊕ (Int32)) (hf : f_L_number_l4 v0 M z = some o) (hA : ∀ z, o = .inl z → AtL w p l e ({ frames := 0, cells := 0, slots := 0, locals := 0 } : Room) s m args below meth c Q 4 4 M L [(0, .int v0), (1, .ref (wAd w 98)), (2, .int z.1), (3, .int z.2)] []) (hE : ∀ y, o = .inr y → AtL w p l e ({ frames := 0, cells := 0, slots := 0, locals := 0 } : Room) s m args below meth c Q 4 30 M L [(2, .int y)] []) : AtL w p l e ({ frames := 0, cells := 0, slots := 0, locals := 0 } : Room) s m args below meth c Q 4 4 M L [(0, .int v0), (1, .ref (wAd w 98)), (2, .int z.1), (3, .int z.2)] [] := by
  intro H locs ls hP hS hl
  unfold f_L_number_l4 at hf
  refine lv_iload_n C.1 C.2.1 dL_number_4 rfl (lv_at hl 3 rfl) ?_
  refine lv_iload_n C.1 C.2.1 dL_number_5 rfl (lv_at hl 0 rfl) ?_
  refine lv_icmp_gt (tgt := 30) C.1 C.2.1 dL_number_6 (by decide) (fun c1 => ?_) (fun c1 => ?_)
  · have hf := (if_pos c1).symm.trans hf
    cases hf
    exact hE _ rfl _ _ _ hP hS (lv_sub hl [2] rfl)
  · have hf := (if_neg c1).symm.trans hf
    refine lv_iload_n C.1 C.2.1 dL_number_9 rfl (lv_at hl 2 rfl) ?_
    refine lv_aload_n C.1 C.2.1 dL_number_10 rfl (lv_at hl 1 rfl) ?_
    refine lv_iload_n C.1 C.2.1 dL_number_11 rfl (lv_at hl 3 rfl) ?_
    obtain ⟨x2, hx2, hf⟩ := ob hf
    refine k_iald C hP (Nat.lt_of_lt_of_le (Nat.le_of_ble_eq_true rfl) hN) (ar_L98 w L _) hx2 dL_number_12 ?_
    refine lv_iload_n C.1 C.2.1 dL_number_13 rfl (lv_at hl 3 rfl) ?_
    refine lv_icmp_ne (tgt := 21) C.1 C.2.1 dL_number_14 (by decide) (fun c3 => ?_) (fun c3 => ?_)
    · have hf := (if_neg c3).symm.trans hf
      refine lv_iconst (v := 0) C.1 C.2.1 dL_number_21 (by decide) ?_
      exact w_L_number_j22 C hN hf hA hE _ _ _ hP hS (lv_sub hl [0, 1, 3] rfl)
    · have hf := (if_pos c3).symm.trans hf
      refine lv_iconst (v := 1) C.1 C.2.1 dL_number_17 (by decide) ?_
      refine lv_goto (tgt := 22) C.1 C.2.1 dL_number_18 (by decide) ?_
      exact w_L_number_j22 C hN hf hA hE _ _ _ hP hS (lv_sub hl [0, 1, 3] rfl)
set_option maxHeartbeats 4000000 in
set_option maxRecDepth 100000 in
theorem c_L_number (w : WT) (l : Launch) (hw : WOK w) (hN : 99 ≤ wN w) {a0 : Int32} {M : Mem} {L : Lng} {out : Int32} (hf : f_L_number a0 M = some out) : Met l yL_number (Cond.code yL_number cL_number 4 (some .int) :: BG) ({ frames := 0, cells := 0, slots := 0, locals := 0 } : Room) (PRE w [.int a0, .ref (wAd w 98)] M L) (QI w out M L) 0 0 (wA w) := by
  refine kEnt hw (by decide +kernel) rfl (Nat.le_of_ble_eq_true rfl) ?_
  intro p e s m args below meth c C ls hl hP
  have hS : va_S (wA w) s.heap s.heap [] := va_S.rf
  have hl : lv_has ls 4 [(0, .int a0), (1, .ref (wAd w 98))] := hl
  unfold f_L_number at hf
  refine lv_iconst (v := (-1)) C.1 C.2.1 dL_number_0 (by decide) ?_
  refine lv_istore_n (lv' := [(2, .int (-1)), (0, .int a0), (1, .ref (wAd w 98))]) C.1 C.2.1 dL_number_1 rfl hl (by decide) rfl (fun ls hl => ?_)
  refine lv_iconst (v := 0) C.1 C.2.1 dL_number_2 (by decide) ?_
  refine lv_istore_n (lv' := [(3, .int 0), (2, .int (-1)), (0, .int a0), (1, .ref (wAd w 98))]) C.1 C.2.1 dL_number_3 rfl hl (by decide) rfl (fun ls hl => ?_)
  obtain ⟨o4, ho4, hf⟩ := ob hf
  refine loop_at (w_L_number_l4 C hN) FU _ o4 ho4 ?_ _ _ _ hP hS (lv_sub hl [2, 3, 1, 0] rfl)
  intro H locs ls hP hS hl
  refine lv_iload_n C.1 C.2.1 dL_number_30 rfl (lv_at hl 0 rfl) ?_
  cases hf
  exact kri C hP hS dL_number_31
