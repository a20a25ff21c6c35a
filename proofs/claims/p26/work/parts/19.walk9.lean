set_option maxHeartbeats 4000000 in
set_option maxRecDepth 100000 in
theorem w_L_told_j439 {w : WT} {l : Launch} {p : Program} {e : Env} {s : State} {m : MethodId} {args : Array Value} {below : List Frame} {meth : Method} {c : Code} (C : KC w p s m args meth c cL_told 20 RL (some .boolean)) (hN : 99 ≤ wN w) (hT : wN w = 100) {v1 : Int32} {M : Mem} {L : Lng} {out : Int32 × Mem} (hf : f_L_told_j439 v1 M = some out) : AtC w p l e ({ frames := 5, cells := 20007, slots := 120258, locals := 139 } : Room) s m args below meth c (MQ below (QI w out.1 out.2 L) args s 20007 120258 (wA w)) 20 439 M L [(0, .ref (wAd w 0)), (1, .int v1), (4, .ref (wAd w 92)), (5, .ref (wAd w 93)), (6, .ref (wAd w 94)), (7, .ref (wAd w 95)), (8, .ref (wAd w 96)), (9, .ref (wAd w 97)), (10, .ref (wAd w 98))] [] 5 246 := by
  intro H locs ls hP hS hl
  unfold f_L_told_j439 at hf
  refine lv_iconst (v := 0) C.1 C.2.1 dL_told_439 (by decide) ?_
  refine lv_istore (lv' := [(12, .int 0), (0, .ref (wAd w 0)), (1, .int v1), (4, .ref (wAd w 92)), (5, .ref (wAd w 93)), (6, .ref (wAd w 94)), (7, .ref (wAd w 95)), (8, .ref (wAd w 96)), (9, .ref (wAd w 97)), (10, .ref (wAd w 98))]) C.1 C.2.1 dL_told_440 hl (by decide) rfl (fun ls hl => ?_)
  obtain ⟨o71, ho71, hf⟩ := ob hf
  refine W.widen (k := cuA 5 0) (n := suA 246 0) cu_0 su_0 ?_
  refine loop_atj (A := fun j z => AtC w p l e ({ frames := 5, cells := 20007, slots := 120258, locals := 139 } : Room) s m args below meth c (MQ below (QI w out.1 out.2 L) args s 20007 120258 (wA w)) 20 442 z.2 L [(0, .ref (wAd w 0)), (1, .int v1), (4, .ref (wAd w 92)), (5, .ref (wAd w 93)), (6, .ref (wAd w 94)), (7, .ref (wAd w 95)), (8, .ref (wAd w 96)), (9, .ref (wAd w 97)), (10, .ref (wAd w 98)), (12, .int z.1)] [] (cuA 5 j) (suA 246 j)) FU (fun j hj z o hb hA hE => w_L_told_l442 C hN hT (out := out) (cu := cuA 5 j) (su := suA 246 j) (cu9 := cuA 5 (j + 1)) (su9 := suA 246 (j + 1)) (cu_s _ _) (su_s _ _) (cu_b hj) (su_b hj) z o hb hA hE) FU 0 _ o71 fu_le ho71 ?_ _ _ _ hP hS (lv_sub hl [1, 2, 3, 4, 5, 6, 7, 8, 9, 0] rfl)
  rcases o71 with o71 | o71
  · have hf := (Sum.elim_inl _ _ _).symm.trans hf
    intro H locs ls hP hS hl
    exact w_L_told_j499 C hN hT hf _ _ _ hP hS hl
  · simp only [Sum.elim_inr] at hf
    exact Option.some.inj hf
set_option maxHeartbeats 4000000 in
set_option maxRecDepth 100000 in
theorem w_L_told_j372 {w : WT} {l : Launch} {p : Program} {e : Env} {s : State} {m : MethodId} {args : Array Value} {below : List Frame} {meth : Method} {c : Code} (C : KC w p s m args meth c cL_told 20 RL (some .boolean)) (hN : 99 ≤ wN w) (hT : wN w = 100) {v1 : Int32} {M : Mem} {L : Lng} {out : Int32 × Mem} (hf : f_L_told_j372 v1 M = some out) : AtC w p l e ({ frames := 5, cells := 20007, slots := 120258, locals := 139 } : Room) s m args below meth c (MQ below (QI w out.1 out.2 L) args s 20007 120258 (wA w)) 20 372 M L [(0, .ref (wAd w 0)), (1, .int v1), (4, .ref (wAd w 92)), (5, .ref (wAd w 93)), (6, .ref (wAd w 94)), (7, .ref (wAd w 95)), (8, .ref (wAd w 96)), (9, .ref (wAd w 97)), (10, .ref (wAd w 98)), (11, .ref (wAd w 99))] [] 5 246 := by
  intro H locs ls hP hS hl
  unfold f_L_told_j372 at hf
  refine lv_iconst (v := 0) C.1 C.2.1 dL_told_372 (by decide) ?_
  refine lv_istore (lv' := [(12, .int 0), (0, .ref (wAd w 0)), (1, .int v1), (4, .ref (wAd w 92)), (5, .ref (wAd w 93)), (6, .ref (wAd w 94)), (7, .ref (wAd w 95)), (8, .ref (wAd w 96)), (9, .ref (wAd w 97)), (10, .ref (wAd w 98)), (11, .ref (wAd w 99))]) C.1 C.2.1 dL_told_373 hl (by decide) rfl (fun ls hl => ?_)
  obtain ⟨o63, ho63, hf⟩ := ob hf
  refine loop_at (w_L_told_l375 C hN hT (out := out)) FU _ o63 ho63 ?_ _ _ _ hP hS (lv_sub hl [1, 2, 3, 4, 5, 6, 7, 8, 9, 10, 0] rfl)
  rcases o63 with o63 | o63
  · have hf := (Sum.elim_inl _ _ _).symm.trans hf
    intro H locs ls hP hS hl
    exact w_L_told_j439 C hN hT hf _ _ _ hP hS hl
  · simp only [Sum.elim_inr] at hf
    exact Option.some.inj hf
set_option maxHeartbeats 4000000 in
set_option maxRecDepth 100000 in
theorem w_L_told_j30 {w : WT} {l : Launch} {p : Program} {e : Env} {s : State} {m : MethodId} {args : Array Value} {below : List Frame} {meth : Method} {c : Code} (C : KC w p s m args meth c cL_told 20 RL (some .boolean)) (hN : 99 ≤ wN w) (hT : wN w = 100) {v1 : Int32} {M : Mem} {L : Lng} {out : Int32 × Mem} (hf : f_L_told_j30 v1 M = some out) : AtC w p l e ({ frames := 5, cells := 20007, slots := 120258, locals := 139 } : Room) s m args below meth c (MQ below (QI w out.1 out.2 L) args s 20007 120258 (wA w)) 20 30 M L [(0, .ref (wAd w 0)), (1, .int v1), (2, .ref (wAd w 90)), (3, .ref (wAd w 91)), (4, .ref (wAd w 92)), (5, .ref (wAd w 93)), (6, .ref (wAd w 94)), (7, .ref (wAd w 95)), (8, .ref (wAd w 96)), (9, .ref (wAd w 97)), (10, .ref (wAd w 98)), (11, .ref (wAd w 99))] [] 5 246 := by
  intro H locs ls hP hS hl
  unfold f_L_told_j30 at hf
  refine lv_aload_n C.1 C.2.1 dL_told_30 rfl (lv_at hl 2 rfl) ?_
  refine lv_aload_n C.1 C.2.1 dL_told_31 rfl (lv_at hl 3 rfl) ?_
  refine lv_aload C.1 C.2.1 dL_told_32 (lv_at hl 5 rfl) ?_
  refine lv_aload C.1 C.2.1 dL_told_34 (lv_at hl 6 rfl) ?_
  refine lv_aload C.1 C.2.1 dL_told_36 (lv_at hl 7 rfl) ?_
  refine lv_aload C.1 C.2.1 dL_told_38 (lv_at hl 8 rfl) ?_
  refine lv_aload C.1 C.2.1 dL_told_40 (lv_at hl 9 rfl) ?_
  refine lv_aload C.1 C.2.1 dL_told_42 (lv_at hl 10 rfl) ?_
  obtain ⟨r1, hr1, hf⟩ := ob hf
  refine kcv (kS (As := [.ref (wAd w 90), .ref (wAd w 91), .ref (wAd w 93), .ref (wAd w 94), .ref (wAd w 95), .ref (wAd w 96), .ref (wAd w 97), .ref (wAd w 98)]) (rest := []) C hl.1 hP hS (c_L_lay w l C.2.2.2.2.2.2.2.2 hN (L := L) hr1) (gS q390 q391 q0 q392) hd_L_lay ⟨rfl, rfl⟩ ⟨Nat.le_of_ble_eq_true rfl, Nat.le_of_ble_eq_true rfl⟩ rfl rfl (Nat.le_of_ble_eq_true rfl) dL_told_44 ⟨Nat.le_of_ble_eq_true rfl, Nat.le_of_ble_eq_true rfl⟩) hS (fun H locs hP hS => ?_)
  refine lv_aload C.1 C.2.1 dL_told_47 (lv_at hl 4 rfl) ?_
  refine lv_aload C.1 C.2.1 dL_told_49 (lv_at hl 11 rfl) ?_
  refine lv_aload C.1 C.2.1 dL_told_51 (lv_at hl 5 rfl) ?_
  refine lv_aload C.1 C.2.1 dL_told_53 (lv_at hl 6 rfl) ?_
  refine lv_aload C.1 C.2.1 dL_told_55 (lv_at hl 7 rfl) ?_
  refine lv_aload C.1 C.2.1 dL_told_57 (lv_at hl 8 rfl) ?_
  refine lv_aload C.1 C.2.1 dL_told_59 (lv_at hl 9 rfl) ?_
  refine lv_aload C.1 C.2.1 dL_told_61 (lv_at hl 10 rfl) ?_
  obtain ⟨r2, hr2, hf⟩ := ob hf
  refine kcv (kS (As := [.ref (wAd w 92), .ref (wAd w 99), .ref (wAd w 93), .ref (wAd w 94), .ref (wAd w 95), .ref (wAd w 96), .ref (wAd w 97), .ref (wAd w 98)]) (rest := []) C hl.1 hP hS (c_L_match w l C.2.2.2.2.2.2.2.2 hN (Or.inl rfl) (by rw [hT]; exact Nat.le_of_ble_eq_true rfl) (L := L) hr2) (gS q399 q400 q0 q401) hd_L_match ⟨rfl, rfl⟩ ⟨Nat.le_of_ble_eq_true rfl, Nat.le_of_ble_eq_true rfl⟩ rfl rfl (Nat.le_of_ble_eq_true rfl) dL_told_63 ⟨Nat.le_of_ble_eq_true rfl, Nat.le_of_ble_eq_true rfl⟩) hS (fun H locs hP hS => ?_)
  refine lv_iconst (v := 0) C.1 C.2.1 dL_told_66 (by decide) ?_
  refine lv_istore (lv' := [(12, .int 0), (0, .ref (wAd w 0)), (1, .int v1), (2, .ref (wAd w 90)), (3, .ref (wAd w 91)), (4, .ref (wAd w 92)), (5, .ref (wAd w 93)), (6, .ref (wAd w 94)), (7, .ref (wAd w 95)), (8, .ref (wAd w 96)), (9, .ref (wAd w 97)), (10, .ref (wAd w 98)), (11, .ref (wAd w 99))]) C.1 C.2.1 dL_told_67 hl (by decide) rfl (fun ls hl => ?_)
  obtain ⟨o51, ho51, hf⟩ := ob hf
  refine loop_at (w_L_told_l69 C hN hT (out := out)) FU _ o51 ho51 ?_ _ _ _ hP hS (lv_sub hl [1, 2, 3, 4, 5, 6, 7, 8, 9, 10, 11, 12, 0] rfl)
  rcases o51 with o51 | o51
  · have hf := (Sum.elim_inl _ _ _).symm.trans hf
    intro H locs ls hP hS hl
    exact w_L_told_j372 C hN hT hf _ _ _ hP hS hl
  · simp only [Sum.elim_inr] at hf
    exact Option.some.inj hf
set_option maxHeartbeats 4000000 in
set_option maxRecDepth 100000 in
theorem c_L_told (w : WT) (l : Launch) (hw : WOK w) (hT0 : wN w = 95) {a1 : Int32} {M : Mem} {L : Lng} {out : Int32 × Mem} (hf : f_L_told a1 M = some out) : Met l yL_told (Cond.code yL_told cL_told 20 (some .boolean) :: BG) ({ frames := 5, cells := 20007, slots := 120258, locals := 139 } : Room) (PRE w [.ref (wAd w 0), .int a1, .ref (wAd w 90), .ref (wAd w 91), .ref (wAd w 92), .ref (wAd w 93), .ref (wAd w 94)] M L) (QI w out.1 out.2 L) 20007 120258 (wA w) := by
  refine kEntC hw (by decide +kernel) rfl (Nat.le_of_ble_eq_true rfl) ?_
  intro p e s m args below meth c C ls hl hP
  have hS : va_S (wA w) s.heap s.heap [] := va_S.rf
  have hl : lv_has ls 20 [(0, .ref (wAd w 0)), (1, .int a1), (2, .ref (wAd w 90)), (3, .ref (wAd w 91)), (4, .ref (wAd w 92)), (5, .ref (wAd w 93)), (6, .ref (wAd w 94))] := hl
  unfold f_L_told at hf
  refine lv_bipush (v := 60) C.1 C.2.1 dL_told_0 (by decide) ?_
  refine k_newa (N := 60) (n := 95) C hP hS q71 hT0 (fun row => ar_L95 w L row) (by decide) rfl (Nat.le_of_ble_eq_true rfl) (Nat.le_of_ble_eq_true rfl) (Nat.le_of_ble_eq_true rfl) (Nat.le_of_ble_eq_true rfl) dL_told_2 (fun q1 w1 H C X1 e1 n1 hP hS => ?_)
  refine lv_astore (lv' := [(7, .ref q1), (0, .ref (wAd w 0)), (1, .int a1), (2, .ref (wAd w 90)), (3, .ref (wAd w 91)), (4, .ref (wAd w 92)), (5, .ref (wAd w 93)), (6, .ref (wAd w 94))]) C.1 C.2.1 dL_told_4 hl (by decide) rfl (fun ls hl => ?_)
  refine lv_bipush (v := 60) C.1 C.2.1 dL_told_6 (by decide) ?_
  refine k_newa (N := 60) (n := 96) C hP hS q71 n1 (fun row => ar_L96 w1 L row) (by decide) rfl (Nat.le_of_ble_eq_true rfl) (Nat.le_of_ble_eq_true rfl) (Nat.le_of_ble_eq_true rfl) (Nat.le_of_ble_eq_true rfl) dL_told_8 (fun q2 w2 H C X2 e2 n2 hP hS => ?_)
  refine lv_astore (lv' := [(8, .ref q2), (7, .ref q1), (0, .ref (wAd w 0)), (1, .int a1), (2, .ref (wAd w 90)), (3, .ref (wAd w 91)), (4, .ref (wAd w 92)), (5, .ref (wAd w 93)), (6, .ref (wAd w 94))]) C.1 C.2.1 dL_told_10 hl (by decide) rfl (fun ls hl => ?_)
  refine lv_bipush (v := 60) C.1 C.2.1 dL_told_12 (by decide) ?_
  refine k_newa (N := 60) (n := 97) C hP hS q71 n2 (fun row => ar_L97 w2 L row) (by decide) rfl (Nat.le_of_ble_eq_true rfl) (Nat.le_of_ble_eq_true rfl) (Nat.le_of_ble_eq_true rfl) (Nat.le_of_ble_eq_true rfl) dL_told_14 (fun q3 w3 H C X3 e3 n3 hP hS => ?_)
  refine lv_astore (lv' := [(9, .ref q3), (8, .ref q2), (7, .ref q1), (0, .ref (wAd w 0)), (1, .int a1), (2, .ref (wAd w 90)), (3, .ref (wAd w 91)), (4, .ref (wAd w 92)), (5, .ref (wAd w 93)), (6, .ref (wAd w 94))]) C.1 C.2.1 dL_told_16 hl (by decide) rfl (fun ls hl => ?_)
  refine lv_bipush (v := 60) C.1 C.2.1 dL_told_18 (by decide) ?_
  refine k_newa (N := 60) (n := 98) C hP hS q71 n3 (fun row => ar_L98 w3 L row) (by decide) rfl (Nat.le_of_ble_eq_true rfl) (Nat.le_of_ble_eq_true rfl) (Nat.le_of_ble_eq_true rfl) (Nat.le_of_ble_eq_true rfl) dL_told_20 (fun q4 w4 H C X4 e4 n4 hP hS => ?_)
  refine lv_astore (lv' := [(10, .ref q4), (9, .ref q3), (8, .ref q2), (7, .ref q1), (0, .ref (wAd w 0)), (1, .int a1), (2, .ref (wAd w 90)), (3, .ref (wAd w 91)), (4, .ref (wAd w 92)), (5, .ref (wAd w 93)), (6, .ref (wAd w 94))]) C.1 C.2.1 dL_told_22 hl (by decide) rfl (fun ls hl => ?_)
  refine lv_bipush (v := 6) C.1 C.2.1 dL_told_24 (by decide) ?_
  refine k_newa (N := 6) (n := 99) C hP hS q71 n4 (fun row => ar_L99 w4 L row) (by decide) rfl (Nat.le_of_ble_eq_true rfl) (Nat.le_of_ble_eq_true rfl) (Nat.le_of_ble_eq_true rfl) (Nat.le_of_ble_eq_true rfl) dL_told_26 (fun q5 w5 H C X5 e5 n5 hP hS => ?_)
  refine lv_astore (lv' := [(11, .ref q5), (10, .ref q4), (9, .ref q3), (8, .ref q2), (7, .ref q1), (0, .ref (wAd w 0)), (1, .int a1), (2, .ref (wAd w 90)), (3, .ref (wAd w 91)), (4, .ref (wAd w 92)), (5, .ref (wAd w 93)), (6, .ref (wAd w 94))]) C.1 C.2.1 dL_told_28 hl (by decide) rfl (fun ls hl => ?_)
  have XX : WX w w5 := (WX.trans (WX.trans (WX.trans (WX.trans X1 X2) X3) X4) X5)
  have g5 : wAd w5 99 = q5 := e5
  have g4 : wAd w5 98 = q4 := (X5.2.2.2.2.2.2 98 (by rw [n4]; exact Nat.lt_succ_self _)).trans e4
  have g3 : wAd w5 97 = q3 := ((WX.trans X4 X5).2.2.2.2.2.2 97 (by rw [n3]; exact Nat.lt_succ_self _)).trans e3
  have g2 : wAd w5 96 = q2 := ((WX.trans (WX.trans X3 X4) X5).2.2.2.2.2.2 96 (by rw [n2]; exact Nat.lt_succ_self _)).trans e2
  have g1 : wAd w5 95 = q1 := ((WX.trans (WX.trans (WX.trans X2 X3) X4) X5).2.2.2.2.2.2 95 (by rw [n1]; exact Nat.lt_succ_self _)).trans e1
  have k0 : wAd w5 0 = wAd w 0 := XX.2.2.2.2.2.2 0 (C9w hw (Nat.le_of_ble_eq_true rfl))
  have k90 : wAd w5 90 = wAd w 90 := XX.2.2.2.2.2.2 90 (C9w hw (Nat.le_of_ble_eq_true rfl))
  have k91 : wAd w5 91 = wAd w 91 := XX.2.2.2.2.2.2 91 (C9w hw (Nat.le_of_ble_eq_true rfl))
  have k92 : wAd w5 92 = wAd w 92 := XX.2.2.2.2.2.2 92 (C9w hw (Nat.le_of_ble_eq_true rfl))
  have k93 : wAd w5 93 = wAd w 93 := XX.2.2.2.2.2.2 93 (C9w hw (Nat.le_of_ble_eq_true rfl))
  have k94 : wAd w5 94 = wAd w 94 := XX.2.2.2.2.2.2 94 (C9w hw (Nat.le_of_ble_eq_true rfl))
  have hl : lv_has ls 20 [(11, .ref (wAd w5 99)), (10, .ref (wAd w5 98)), (9, .ref (wAd w5 97)), (8, .ref (wAd w5 96)), (7, .ref (wAd w5 95)), (0, .ref (wAd w5 0)), (1, .int a1), (2, .ref (wAd w5 90)), (3, .ref (wAd w5 91)), (4, .ref (wAd w5 92)), (5, .ref (wAd w5 93)), (6, .ref (wAd w5 94))] := by rw [g5, g4, g3, g2, g1, k0, k90, k91, k92, k93, k94]; exact hl
  refine W_mono (fun t h => MQ_down hw XX (by omega) h) ?_
  exact w_L_told_j30 C (by omega) n5 hf _ _ _ hP hS (lv_sub hl [5, 6, 7, 8, 9, 10, 11, 4, 3, 2, 1, 0] rfl)
theorem dL_ahead_0 : decode cL_ahead 0 = .ok (.bipush 60, 2) := by decide +kernel
theorem dL_ahead_2 : decode cL_ahead 2 = .ok (.newarray .int, 2) := by decide +kernel
theorem dL_ahead_4 : decode cL_ahead 4 = .ok (.astore 8, 2) := by decide +kernel
theorem dL_ahead_6 : decode cL_ahead 6 = .ok (.bipush 60, 2) := by decide +kernel
theorem dL_ahead_8 : decode cL_ahead 8 = .ok (.newarray .int, 2) := by decide +kernel
theorem dL_ahead_10 : decode cL_ahead 10 = .ok (.astore 9, 2) := by decide +kernel
theorem dL_ahead_12 : decode cL_ahead 12 = .ok (.bipush 60, 2) := by decide +kernel
theorem dL_ahead_14 : decode cL_ahead 14 = .ok (.newarray .int, 2) := by decide +kernel
theorem dL_ahead_16 : decode cL_ahead 16 = .ok (.astore 10, 2) := by decide +kernel
theorem dL_ahead_18 : decode cL_ahead 18 = .ok (.bipush 60, 2) := by decide +kernel
theorem dL_ahead_20 : decode cL_ahead 20 = .ok (.newarray .int, 2) := by decide +kernel
theorem dL_ahead_22 : decode cL_ahead 22 = .ok (.astore 11, 2) := by decide +kernel
theorem dL_ahead_24 : decode cL_ahead 24 = .ok (.iload_n 1, 1) := by decide +kernel
theorem dL_ahead_25 : decode cL_ahead 25 = .ok (.bipush 10, 2) := by decide +kernel
theorem dL_ahead_27 : decode cL_ahead 27 = .ok (.invokestatic 59, 3) := by decide +kernel
theorem dL_ahead_30 : decode cL_ahead 30 = .ok (.istore 12, 2) := by decide +kernel
theorem dL_ahead_32 : decode cL_ahead 32 = .ok (.iload_n 1, 1) := by decide +kernel
theorem dL_ahead_33 : decode cL_ahead 33 = .ok (.iconst 4, 1) := by decide +kernel
theorem dL_ahead_34 : decode cL_ahead 34 = .ok (.ishr, 1) := by decide +kernel
theorem dL_ahead_35 : decode cL_ahead 35 = .ok (.bipush 10, 2) := by decide +kernel
theorem dL_ahead_37 : decode cL_ahead 37 = .ok (.invokestatic 59, 3) := by decide +kernel
theorem dL_ahead_40 : decode cL_ahead 40 = .ok (.istore 13, 2) := by decide +kernel
theorem dL_ahead_42 : decode cL_ahead 42 = .ok (.aload 7, 2) := by decide +kernel
theorem dL_ahead_44 : decode cL_ahead 44 = .ok (.iload 12, 2) := by decide +kernel
theorem dL_ahead_46 : decode cL_ahead 46 = .ok (.iaload, 1) := by decide +kernel
theorem dL_ahead_47 : decode cL_ahead 47 = .ok (.istore 14, 2) := by decide +kernel
theorem dL_ahead_49 : decode cL_ahead 49 = .ok (.iload 12, 2) := by decide +kernel
theorem dL_ahead_51 : decode cL_ahead 51 = .ok (.iload_n 2, 1) := by decide +kernel
theorem dL_ahead_52 : decode cL_ahead 52 = .ok (.invokestatic 72, 3) := by decide +kernel
theorem dL_ahead_55 : decode cL_ahead 55 = .ok (.istore 15, 2) := by decide +kernel
theorem dL_ahead_57 : decode cL_ahead 57 = .ok (.aload 7, 2) := by decide +kernel
theorem dL_ahead_59 : decode cL_ahead 59 = .ok (.iload 12, 2) := by decide +kernel
theorem dL_ahead_61 : decode cL_ahead 61 = .ok (.iload 15, 2) := by decide +kernel
theorem dL_ahead_63 : decode cL_ahead 63 = .ok (.iastore, 1) := by decide +kernel
theorem dL_ahead_64 : decode cL_ahead 64 = .ok (.aload_n 3, 1) := by decide +kernel
theorem dL_ahead_65 : decode cL_ahead 65 = .ok (.aload 4, 2) := by decide +kernel
theorem dL_ahead_67 : decode cL_ahead 67 = .ok (.aload 6, 2) := by decide +kernel
theorem dL_ahead_69 : decode cL_ahead 69 = .ok (.aload 7, 2) := by decide +kernel
theorem dL_ahead_71 : decode cL_ahead 71 = .ok (.aload 8, 2) := by decide +kernel
theorem dL_ahead_73 : decode cL_ahead 73 = .ok (.aload 9, 2) := by decide +kernel
theorem dL_ahead_75 : decode cL_ahead 75 = .ok (.aload 10, 2) := by decide +kernel
theorem dL_ahead_77 : decode cL_ahead 77 = .ok (.aload 11, 2) := by decide +kernel
theorem dL_ahead_79 : decode cL_ahead 79 = .ok (.invokestatic 33, 3) := by decide +kernel
theorem dL_ahead_82 : decode cL_ahead 82 = .ok (.iload 13, 2) := by decide +kernel
theorem dL_ahead_84 : decode cL_ahead 84 = .ok (.aload 5, 2) := by decide +kernel
theorem dL_ahead_86 : decode cL_ahead 86 = .ok (.aload 6, 2) := by decide +kernel
theorem dL_ahead_88 : decode cL_ahead 88 = .ok (.aload 7, 2) := by decide +kernel
theorem dL_ahead_90 : decode cL_ahead 90 = .ok (.aload 8, 2) := by decide +kernel
theorem dL_ahead_92 : decode cL_ahead 92 = .ok (.aload 9, 2) := by decide +kernel
theorem dL_ahead_94 : decode cL_ahead 94 = .ok (.aload 10, 2) := by decide +kernel
theorem dL_ahead_96 : decode cL_ahead 96 = .ok (.aload 11, 2) := by decide +kernel
theorem dL_ahead_98 : decode cL_ahead 98 = .ok (.invokestatic 55, 3) := by decide +kernel
theorem dL_ahead_101 : decode cL_ahead 101 = .ok (.istore 16, 2) := by decide +kernel
theorem dL_ahead_103 : decode cL_ahead 103 = .ok (.aload 7, 2) := by decide +kernel
theorem dL_ahead_105 : decode cL_ahead 105 = .ok (.iload 12, 2) := by decide +kernel
theorem dL_ahead_107 : decode cL_ahead 107 = .ok (.iload 14, 2) := by decide +kernel
theorem dL_ahead_109 : decode cL_ahead 109 = .ok (.iastore, 1) := by decide +kernel
theorem dL_ahead_110 : decode cL_ahead 110 = .ok (.aload_n 0, 1) := by decide +kernel
theorem dL_ahead_111 : decode cL_ahead 111 = .ok (.iload 12, 2) := by decide +kernel
theorem dL_ahead_113 : decode cL_ahead 113 = .ok (.iload 15, 2) := by decide +kernel
theorem dL_ahead_115 : decode cL_ahead 115 = .ok (.iload 13, 2) := by decide +kernel
theorem dL_ahead_117 : decode cL_ahead 117 = .ok (.invokevirtual 75, 3) := by decide +kernel
theorem dL_ahead_120 : decode cL_ahead 120 = .ok (.iload 16, 2) := by decide +kernel
theorem dL_ahead_122 : decode cL_ahead 122 = .ok (.if_icmp .eq 5, 3) := by decide +kernel
theorem dL_ahead_125 : decode cL_ahead 125 = .ok (.iconst 0, 1) := by decide +kernel
theorem dL_ahead_126 : decode cL_ahead 126 = .ok (.ireturn, 1) := by decide +kernel
theorem dL_ahead_127 : decode cL_ahead 127 = .ok (.iload_n 2, 1) := by decide +kernel
theorem dL_ahead_128 : decode cL_ahead 128 = .ok (.iconst 5, 1) := by decide +kernel
theorem dL_ahead_129 : decode cL_ahead 129 = .ok (.ishr, 1) := by decide +kernel
theorem dL_ahead_130 : decode cL_ahead 130 = .ok (.iconst 4, 1) := by decide +kernel
theorem dL_ahead_131 : decode cL_ahead 131 = .ok (.invokestatic 59, 3) := by decide +kernel
theorem dL_ahead_134 : decode cL_ahead 134 = .ok (.istore 17, 2) := by decide +kernel
theorem dL_ahead_136 : decode cL_ahead 136 = .ok (.iconst (-1), 1) := by decide +kernel
theorem dL_ahead_137 : decode cL_ahead 137 = .ok (.istore 18, 2) := by decide +kernel
theorem dL_ahead_139 : decode cL_ahead 139 = .ok (.aload 7, 2) := by decide +kernel
theorem dL_ahead_141 : decode cL_ahead 141 = .ok (.iconst 0, 1) := by decide +kernel
theorem dL_ahead_142 : decode cL_ahead 142 = .ok (.iaload, 1) := by decide +kernel
theorem dL_ahead_143 : decode cL_ahead 143 = .ok (.istore 14, 2) := by decide +kernel
theorem dL_ahead_145 : decode cL_ahead 145 = .ok (.sipush 140, 3) := by decide +kernel
theorem dL_ahead_148 : decode cL_ahead 148 = .ok (.istore 19, 2) := by decide +kernel
theorem dL_ahead_150 : decode cL_ahead 150 = .ok (.iload 19, 2) := by decide +kernel
theorem dL_ahead_152 : decode cL_ahead 152 = .ok (.ifCond .lt 54, 3) := by decide +kernel
theorem dL_ahead_155 : decode cL_ahead 155 = .ok (.aload 7, 2) := by decide +kernel
theorem dL_ahead_157 : decode cL_ahead 157 = .ok (.iconst 0, 1) := by decide +kernel
theorem dL_ahead_158 : decode cL_ahead 158 = .ok (.iload 19, 2) := by decide +kernel
theorem dL_ahead_160 : decode cL_ahead 160 = .ok (.iastore, 1) := by decide +kernel
theorem dL_ahead_161 : decode cL_ahead 161 = .ok (.aload_n 3, 1) := by decide +kernel
theorem dL_ahead_162 : decode cL_ahead 162 = .ok (.aload 4, 2) := by decide +kernel
theorem dL_ahead_164 : decode cL_ahead 164 = .ok (.aload 6, 2) := by decide +kernel
theorem dL_ahead_166 : decode cL_ahead 166 = .ok (.aload 7, 2) := by decide +kernel
theorem dL_ahead_168 : decode cL_ahead 168 = .ok (.aload 8, 2) := by decide +kernel
theorem dL_ahead_170 : decode cL_ahead 170 = .ok (.aload 9, 2) := by decide +kernel
theorem dL_ahead_172 : decode cL_ahead 172 = .ok (.aload 10, 2) := by decide +kernel
theorem dL_ahead_174 : decode cL_ahead 174 = .ok (.aload 11, 2) := by decide +kernel
theorem dL_ahead_176 : decode cL_ahead 176 = .ok (.invokestatic 33, 3) := by decide +kernel
theorem dL_ahead_179 : decode cL_ahead 179 = .ok (.aload 6, 2) := by decide +kernel
theorem dL_ahead_181 : decode cL_ahead 181 = .ok (.aload 11, 2) := by decide +kernel
theorem dL_ahead_183 : decode cL_ahead 183 = .ok (.invokestatic 29, 3) := by decide +kernel
theorem dL_ahead_186 : decode cL_ahead 186 = .ok (.iload 17, 2) := by decide +kernel
theorem dL_ahead_188 : decode cL_ahead 188 = .ok (.if_icmp .gt 8, 3) := by decide +kernel
theorem dL_ahead_191 : decode cL_ahead 191 = .ok (.iload 19, 2) := by decide +kernel
theorem dL_ahead_193 : decode cL_ahead 193 = .ok (.goto 5, 3) := by decide +kernel
theorem dL_ahead_196 : decode cL_ahead 196 = .ok (.iload 18, 2) := by decide +kernel
theorem dL_ahead_198 : decode cL_ahead 198 = .ok (.istore 18, 2) := by decide +kernel
theorem dL_ahead_200 : decode cL_ahead 200 = .ok (.iinc 19 (-1), 3) := by decide +kernel
theorem dL_ahead_203 : decode cL_ahead 203 = .ok (.goto (-53), 3) := by decide +kernel
theorem dL_ahead_206 : decode cL_ahead 206 = .ok (.aload 7, 2) := by decide +kernel
theorem dL_ahead_208 : decode cL_ahead 208 = .ok (.iconst 0, 1) := by decide +kernel
theorem dL_ahead_209 : decode cL_ahead 209 = .ok (.iload 14, 2) := by decide +kernel
theorem dL_ahead_211 : decode cL_ahead 211 = .ok (.iastore, 1) := by decide +kernel
theorem dL_ahead_212 : decode cL_ahead 212 = .ok (.aload_n 0, 1) := by decide +kernel
theorem dL_ahead_213 : decode cL_ahead 213 = .ok (.iload 17, 2) := by decide +kernel
theorem dL_ahead_215 : decode cL_ahead 215 = .ok (.invokevirtual 79, 3) := by decide +kernel
theorem dL_ahead_218 : decode cL_ahead 218 = .ok (.iload 18, 2) := by decide +kernel
theorem dL_ahead_220 : decode cL_ahead 220 = .ok (.if_icmp .eq 5, 3) := by decide +kernel
theorem dL_ahead_223 : decode cL_ahead 223 = .ok (.iconst 0, 1) := by decide +kernel
theorem dL_ahead_224 : decode cL_ahead 224 = .ok (.ireturn, 1) := by decide +kernel
theorem dL_ahead_225 : decode cL_ahead 225 = .ok (.aload_n 3, 1) := by decide +kernel
theorem dL_ahead_226 : decode cL_ahead 226 = .ok (.aload 4, 2) := by decide +kernel
theorem dL_ahead_228 : decode cL_ahead 228 = .ok (.aload 6, 2) := by decide +kernel
theorem dL_ahead_230 : decode cL_ahead 230 = .ok (.aload 7, 2) := by decide +kernel
theorem dL_ahead_232 : decode cL_ahead 232 = .ok (.aload 8, 2) := by decide +kernel
theorem dL_ahead_234 : decode cL_ahead 234 = .ok (.aload 9, 2) := by decide +kernel
theorem dL_ahead_236 : decode cL_ahead 236 = .ok (.aload 10, 2) := by decide +kernel
theorem dL_ahead_238 : decode cL_ahead 238 = .ok (.aload 11, 2) := by decide +kernel
theorem dL_ahead_240 : decode cL_ahead 240 = .ok (.invokestatic 33, 3) := by decide +kernel
theorem dL_ahead_243 : decode cL_ahead 243 = .ok (.iload_n 1, 1) := by decide +kernel
theorem dL_ahead_244 : decode cL_ahead 244 = .ok (.bipush 7, 2) := by decide +kernel
theorem dL_ahead_246 : decode cL_ahead 246 = .ok (.ishr, 1) := by decide +kernel
theorem dL_ahead_247 : decode cL_ahead 247 = .ok (.sipush 141, 3) := by decide +kernel
theorem dL_ahead_250 : decode cL_ahead 250 = .ok (.invokestatic 59, 3) := by decide +kernel
theorem dL_ahead_253 : decode cL_ahead 253 = .ok (.istore 19, 2) := by decide +kernel
theorem dL_ahead_255 : decode cL_ahead 255 = .ok (.aload 6, 2) := by decide +kernel
theorem dL_ahead_257 : decode cL_ahead 257 = .ok (.iconst 0, 1) := by decide +kernel
theorem dL_ahead_258 : decode cL_ahead 258 = .ok (.iaload, 1) := by decide +kernel
theorem dL_ahead_259 : decode cL_ahead 259 = .ok (.ifCond .ne 7, 3) := by decide +kernel
theorem dL_ahead_262 : decode cL_ahead 262 = .ok (.iconst 0, 1) := by decide +kernel
theorem dL_ahead_263 : decode cL_ahead 263 = .ok (.goto 12, 3) := by decide +kernel
theorem dL_ahead_266 : decode cL_ahead 266 = .ok (.aload 9, 2) := by decide +kernel
theorem dL_ahead_268 : decode cL_ahead 268 = .ok (.aload 6, 2) := by decide +kernel
theorem dL_ahead_270 : decode cL_ahead 270 = .ok (.iconst 0, 1) := by decide +kernel
theorem dL_ahead_271 : decode cL_ahead 271 = .ok (.iaload, 1) := by decide +kernel
theorem dL_ahead_272 : decode cL_ahead 272 = .ok (.iconst 1, 1) := by decide +kernel
theorem dL_ahead_273 : decode cL_ahead 273 = .ok (.isub, 1) := by decide +kernel
theorem dL_ahead_274 : decode cL_ahead 274 = .ok (.iaload, 1) := by decide +kernel
theorem dL_ahead_275 : decode cL_ahead 275 = .ok (.istore 20, 2) := by decide +kernel
theorem dL_ahead_277 : decode cL_ahead 277 = .ok (.bipush (-100), 2) := by decide +kernel
theorem dL_ahead_279 : decode cL_ahead 279 = .ok (.istore 21, 2) := by decide +kernel
theorem dL_ahead_281 : decode cL_ahead 281 = .ok (.iconst 0, 1) := by decide +kernel
theorem dL_ahead_282 : decode cL_ahead 282 = .ok (.istore 22, 2) := by decide +kernel
theorem dL_ahead_284 : decode cL_ahead 284 = .ok (.iload 22, 2) := by decide +kernel
theorem dL_ahead_286 : decode cL_ahead 286 = .ok (.aload 6, 2) := by decide +kernel
theorem dL_ahead_288 : decode cL_ahead 288 = .ok (.iconst 0, 1) := by decide +kernel
theorem dL_ahead_289 : decode cL_ahead 289 = .ok (.iaload, 1) := by decide +kernel
theorem dL_ahead_290 : decode cL_ahead 290 = .ok (.if_icmp .ge 30, 3) := by decide +kernel
theorem dL_ahead_293 : decode cL_ahead 293 = .ok (.aload 4, 2) := by decide +kernel
theorem dL_ahead_295 : decode cL_ahead 295 = .ok (.iload 22, 2) := by decide +kernel
theorem dL_ahead_297 : decode cL_ahead 297 = .ok (.iaload, 1) := by decide +kernel
theorem dL_ahead_298 : decode cL_ahead 298 = .ok (.aload 7, 2) := by decide +kernel
theorem dL_ahead_300 : decode cL_ahead 300 = .ok (.iconst 4, 1) := by decide +kernel
theorem dL_ahead_301 : decode cL_ahead 301 = .ok (.iaload, 1) := by decide +kernel
theorem dL_ahead_302 : decode cL_ahead 302 = .ok (.if_icmp .lt 8, 3) := by decide +kernel
theorem dL_ahead_305 : decode cL_ahead 305 = .ok (.iload 22, 2) := by decide +kernel
theorem dL_ahead_307 : decode cL_ahead 307 = .ok (.goto 5, 3) := by decide +kernel
theorem dL_ahead_310 : decode cL_ahead 310 = .ok (.iload 21, 2) := by decide +kernel
theorem dL_ahead_312 : decode cL_ahead 312 = .ok (.istore 21, 2) := by decide +kernel
theorem dL_ahead_314 : decode cL_ahead 314 = .ok (.iinc 22 1, 3) := by decide +kernel
theorem dL_ahead_317 : decode cL_ahead 317 = .ok (.goto (-33), 3) := by decide +kernel
theorem dL_ahead_320 : decode cL_ahead 320 = .ok (.iconst (-1), 1) := by decide +kernel
theorem dL_ahead_321 : decode cL_ahead 321 = .ok (.istore 22, 2) := by decide +kernel
theorem dL_ahead_323 : decode cL_ahead 323 = .ok (.iconst 1, 1) := by decide +kernel
theorem dL_ahead_324 : decode cL_ahead 324 = .ok (.istore 23, 2) := by decide +kernel
theorem dL_ahead_326 : decode cL_ahead 326 = .ok (.iload 23, 2) := by decide +kernel
theorem dL_ahead_328 : decode cL_ahead 328 = .ok (.bipush 100, 2) := by decide +kernel
theorem dL_ahead_330 : decode cL_ahead 330 = .ok (.if_icmp .gt 75, 3) := by decide +kernel
theorem dL_ahead_333 : decode cL_ahead 333 = .ok (.iload 22, 2) := by decide +kernel
theorem dL_ahead_335 : decode cL_ahead 335 = .ok (.ifCond .ge 70, 3) := by decide +kernel
theorem dL_ahead_338 : decode cL_ahead 338 = .ok (.aload 6, 2) := by decide +kernel
theorem dL_ahead_340 : decode cL_ahead 340 = .ok (.iconst 0, 1) := by decide +kernel
theorem dL_ahead_341 : decode cL_ahead 341 = .ok (.iaload, 1) := by decide +kernel
theorem dL_ahead_342 : decode cL_ahead 342 = .ok (.iload 23, 2) := by decide +kernel
theorem dL_ahead_344 : decode cL_ahead 344 = .ok (.iadd, 1) := by decide +kernel
theorem dL_ahead_345 : decode cL_ahead 345 = .ok (.iconst 1, 1) := by decide +kernel
theorem dL_ahead_346 : decode cL_ahead 346 = .ok (.isub, 1) := by decide +kernel
theorem dL_ahead_347 : decode cL_ahead 347 = .ok (.istore 24, 2) := by decide +kernel
theorem dL_ahead_349 : decode cL_ahead 349 = .ok (.iload 20, 2) := by decide +kernel
theorem dL_ahead_351 : decode cL_ahead 351 = .ok (.bipush 10, 2) := by decide +kernel
theorem dL_ahead_353 : decode cL_ahead 353 = .ok (.iload 19, 2) := by decide +kernel
theorem dL_ahead_355 : decode cL_ahead 355 = .ok (.imul, 1) := by decide +kernel
theorem dL_ahead_356 : decode cL_ahead 356 = .ok (.iload 20, 2) := by decide +kernel
theorem dL_ahead_358 : decode cL_ahead 358 = .ok (.isub, 1) := by decide +kernel
theorem dL_ahead_359 : decode cL_ahead 359 = .ok (.aload 7, 2) := by decide +kernel
theorem dL_ahead_361 : decode cL_ahead 361 = .ok (.bipush 9, 2) := by decide +kernel
theorem dL_ahead_363 : decode cL_ahead 363 = .ok (.iaload, 1) := by decide +kernel
theorem dL_ahead_364 : decode cL_ahead 364 = .ok (.idiv, 1) := by decide +kernel
theorem dL_ahead_365 : decode cL_ahead 365 = .ok (.iadd, 1) := by decide +kernel
theorem dL_ahead_366 : decode cL_ahead 366 = .ok (.istore 20, 2) := by decide +kernel
theorem dL_ahead_368 : decode cL_ahead 368 = .ok (.iload 24, 2) := by decide +kernel
theorem dL_ahead_370 : decode cL_ahead 370 = .ok (.iload 21, 2) := by decide +kernel
theorem dL_ahead_372 : decode cL_ahead 372 = .ok (.isub, 1) := by decide +kernel
theorem dL_ahead_373 : decode cL_ahead 373 = .ok (.aload 7, 2) := by decide +kernel
theorem dL_ahead_375 : decode cL_ahead 375 = .ok (.iconst 5, 1) := by decide +kernel
theorem dL_ahead_376 : decode cL_ahead 376 = .ok (.iaload, 1) := by decide +kernel
theorem dL_ahead_377 : decode cL_ahead 377 = .ok (.if_icmp .le 22, 3) := by decide +kernel
theorem dL_ahead_380 : decode cL_ahead 380 = .ok (.iload 20, 2) := by decide +kernel
theorem dL_ahead_382 : decode cL_ahead 382 = .ok (.bipush 10, 2) := by decide +kernel
theorem dL_ahead_384 : decode cL_ahead 384 = .ok (.iload 24, 2) := by decide +kernel
theorem dL_ahead_386 : decode cL_ahead 386 = .ok (.aload 7, 2) := by decide +kernel
theorem dL_ahead_388 : decode cL_ahead 388 = .ok (.invokestatic 8, 3) := by decide +kernel
theorem dL_ahead_391 : decode cL_ahead 391 = .ok (.imul, 1) := by decide +kernel
theorem dL_ahead_392 : decode cL_ahead 392 = .ok (.if_icmp .le 7, 3) := by decide +kernel
theorem dL_ahead_395 : decode cL_ahead 395 = .ok (.iload 23, 2) := by decide +kernel
theorem dL_ahead_397 : decode cL_ahead 397 = .ok (.istore 22, 2) := by decide +kernel
theorem dL_ahead_399 : decode cL_ahead 399 = .ok (.iinc 23 1, 3) := by decide +kernel
theorem dL_ahead_402 : decode cL_ahead 402 = .ok (.goto (-76), 3) := by decide +kernel
theorem dL_ahead_405 : decode cL_ahead 405 = .ok (.aload_n 0, 1) := by decide +kernel
theorem dL_ahead_406 : decode cL_ahead 406 = .ok (.iload 19, 2) := by decide +kernel
theorem dL_ahead_408 : decode cL_ahead 408 = .ok (.invokevirtual 82, 3) := by decide +kernel
theorem dL_ahead_411 : decode cL_ahead 411 = .ok (.iload 22, 2) := by decide +kernel
theorem dL_ahead_413 : decode cL_ahead 413 = .ok (.if_icmp .ne 7, 3) := by decide +kernel
theorem dL_ahead_416 : decode cL_ahead 416 = .ok (.iconst 1, 1) := by decide +kernel
theorem dL_ahead_417 : decode cL_ahead 417 = .ok (.goto 4, 3) := by decide +kernel
theorem dL_ahead_420 : decode cL_ahead 420 = .ok (.iconst 0, 1) := by decide +kernel
theorem dL_ahead_421 : decode cL_ahead 421 = .ok (.ireturn, 1) := by decide +kernel
set_option maxHeartbeats 4000000 in
set_option maxRecDepth 100000 in
theorem w_L_ahead_j198 {w : WT} {l : Launch} {p : Program} {e : Env} {s : State} {m : MethodId} {args : Array Value} {below : List Frame} {meth : Method} {c : Code} (C : KC w p s m args meth c cL_ahead 25 RL (some .boolean)) (hN : 99 ≤ wN w) (hT : wN w = 99) {v1 : Int32} {v14 : Int32} {v17 : Int32} {v19 : Int32} {s0 : Int32} {M : Mem} {L : Lng} {Q : State → Prop} {o : (Int32 × Int32 × Mem) ⊕ (Int32 × Mem)} (hf : f_L_ahead_j198 v1 v14 v17 v19 s0 M = some o) (hA : ∀ z, o = .inl z → AtC w p l e ({ frames := 6, cells := 5, slots := 246, locals := 139 } : Room) s m args below meth c Q 25 150 z.2.2 L [(0, .ref (wAd w 0)), (1, .int v1), (3, .ref (wAd w 90)), (4, .ref (wAd w 91)), (6, .ref (wAd w 93)), (7, .ref (wAd w 94)), (8, .ref (wAd w 95)), (9, .ref (wAd w 96)), (10, .ref (wAd w 97)), (11, .ref (wAd w 98)), (14, .int v14), (17, .int v17), (18, .int z.1), (19, .int z.2.1)] [] 5 246) (hE : ∀ y, o = .inr y → AtC w p l e ({ frames := 6, cells := 5, slots := 246, locals := 139 } : Room) s m args below meth c Q 25 206 y.2 L [(0, .ref (wAd w 0)), (1, .int v1), (3, .ref (wAd w 90)), (4, .ref (wAd w 91)), (6, .ref (wAd w 93)), (7, .ref (wAd w 94)), (8, .ref (wAd w 95)), (9, .ref (wAd w 96)), (10, .ref (wAd w 97)), (11, .ref (wAd w 98)), (14, .int v14), (17, .int v17), (18, .int y.1)] [] 5 246) : AtC w p l e ({ frames := 6, cells := 5, slots := 246, locals := 139 } : Room) s m args below meth c Q 25 198 M L [(0, .ref (wAd w 0)), (1, .int v1), (3, .ref (wAd w 90)), (4, .ref (wAd w 91)), (6, .ref (wAd w 93)), (7, .ref (wAd w 94)), (8, .ref (wAd w 95)), (9, .ref (wAd w 96)), (10, .ref (wAd w 97)), (11, .ref (wAd w 98)), (14, .int v14), (17, .int v17), (19, .int v19)] [.int s0] 5 246 := by
  intro H locs ls hP hS hl
  unfold f_L_ahead_j198 at hf
  refine lv_istore (lv' := [(18, .int s0), (0, .ref (wAd w 0)), (1, .int v1), (3, .ref (wAd w 90)), (4, .ref (wAd w 91)), (6, .ref (wAd w 93)), (7, .ref (wAd w 94)), (8, .ref (wAd w 95)), (9, .ref (wAd w 96)), (10, .ref (wAd w 97)), (11, .ref (wAd w 98)), (14, .int v14), (17, .int v17), (19, .int v19)]) C.1 C.2.1 dL_ahead_198 hl (by decide) rfl (fun ls hl => ?_)
  refine lv_iinc (v := (v19 + (-1))) (lv' := [(19, .int (v19 + (-1))), (18, .int s0), (0, .ref (wAd w 0)), (1, .int v1), (3, .ref (wAd w 90)), (4, .ref (wAd w 91)), (6, .ref (wAd w 93)), (7, .ref (wAd w 94)), (8, .ref (wAd w 95)), (9, .ref (wAd w 96)), (10, .ref (wAd w 97)), (11, .ref (wAd w 98)), (14, .int v14), (17, .int v17)]) C.1 C.2.1 dL_ahead_200 hl (k := 13) rfl rfl (by decide) rfl (fun ls hl => ?_)
  refine lv_goto (tgt := 150) C.1 C.2.1 dL_ahead_203 (by decide) ?_
  cases hf
  exact hA _ rfl _ _ _ hP hS (lv_sub hl [2, 3, 4, 5, 6, 7, 8, 9, 10, 11, 12, 13, 1, 0] rfl)
set_option maxHeartbeats 4000000 in
set_option maxRecDepth 100000 in
theorem w_L_ahead_l150 {w : WT} {l : Launch} {p : Program} {e : Env} {s : State} {m : MethodId} {args : Array Value} {below : List Frame} {meth : Method} {c : Code} (C : KC w p s m args meth c cL_ahead 25 RL (some .boolean)) (hN : 99 ≤ wN w) (hT : wN w = 99) {v1 : Int32} {v14 : Int32} {v17 : Int32} {L : Lng} {Q : State → Prop} (z : Int32 × Int32 × Mem) (o : (Int32 × Int32 × Mem) ⊕ (Int32 × Mem)) (hf : f_L_ahead_l150 v1 v14 v17 z = some o) (hA : ∀ z, o = .inl z → AtC w p l e ({ frames := 6, cells := 5, slots := 246, locals := 139 } : Room) s m args below meth c Q 25 150 z.2.2 L [(0, .ref (wAd w 0)), (1, .int v1), (3, .ref (wAd w 90)), (4, .ref (wAd w 91)), (6, .ref (wAd w 93)), (7, .ref (wAd w 94)), (8, .ref (wAd w 95)), (9, .ref (wAd w 96)), (10, .ref (wAd w 97)), (11, .ref (wAd w 98)), (14, .int v14), (17, .int v17), (18, .int z.1), (19, .int z.2.1)] [] 5 246) (hE : ∀ y, o = .inr y → AtC w p l e ({ frames := 6, cells := 5, slots := 246, locals := 139 } : Room) s m args below meth c Q 25 206 y.2 L [(0, .ref (wAd w 0)), (1, .int v1), (3, .ref (wAd w 90)), (4, .ref (wAd w 91)), (6, .ref (wAd w 93)), (7, .ref (wAd w 94)), (8, .ref (wAd w 95)), (9, .ref (wAd w 96)), (10, .ref (wAd w 97)), (11, .ref (wAd w 98)), (14, .int v14), (17, .int v17), (18, .int y.1)] [] 5 246) : AtC w p l e ({ frames := 6, cells := 5, slots := 246, locals := 139 } : Room) s m args below meth c Q 25 150 z.2.2 L [(0, .ref (wAd w 0)), (1, .int v1), (3, .ref (wAd w 90)), (4, .ref (wAd w 91)), (6, .ref (wAd w 93)), (7, .ref (wAd w 94)), (8, .ref (wAd w 95)), (9, .ref (wAd w 96)), (10, .ref (wAd w 97)), (11, .ref (wAd w 98)), (14, .int v14), (17, .int v17), (18, .int z.1), (19, .int z.2.1)] [] 5 246 := by
  intro H locs ls hP hS hl
  unfold f_L_ahead_l150 at hf
  refine lv_iload C.1 C.2.1 dL_ahead_150 (lv_at hl 13 rfl) ?_
  refine lv_if_lt (tgt := 206) C.1 C.2.1 dL_ahead_152 (by decide) (fun c13 => ?_) (fun c13 => ?_)
  · have hf := (if_pos c13).symm.trans hf
    cases hf
    exact hE _ rfl _ _ _ hP hS (lv_sub hl [0, 1, 2, 3, 4, 5, 6, 7, 8, 9, 10, 11, 12] rfl)
  · have hf := (if_neg c13).symm.trans hf
    refine lv_aload C.1 C.2.1 dL_ahead_155 (lv_at hl 5 rfl) ?_
    refine lv_iconst (v := 0) C.1 C.2.1 dL_ahead_157 (by decide) ?_
    refine lv_iload C.1 C.2.1 dL_ahead_158 (lv_at hl 13 rfl) ?_
    obtain ⟨M14, hM14, hf⟩ := ob hf
    refine k_iast C hP hS (C9 C (Nat.le_of_ble_eq_true rfl)) (ar_L94 w L) hM14 dL_ahead_160 (fun H locs hP hS => ?_)
    refine lv_aload_n C.1 C.2.1 dL_ahead_161 rfl (lv_at hl 2 rfl) ?_
    refine lv_aload C.1 C.2.1 dL_ahead_162 (lv_at hl 3 rfl) ?_
    refine lv_aload C.1 C.2.1 dL_ahead_164 (lv_at hl 4 rfl) ?_
    refine lv_aload C.1 C.2.1 dL_ahead_166 (lv_at hl 5 rfl) ?_
    refine lv_aload C.1 C.2.1 dL_ahead_168 (lv_at hl 6 rfl) ?_
    refine lv_aload C.1 C.2.1 dL_ahead_170 (lv_at hl 7 rfl) ?_
    refine lv_aload C.1 C.2.1 dL_ahead_172 (lv_at hl 8 rfl) ?_
    refine lv_aload C.1 C.2.1 dL_ahead_174 (lv_at hl 9 rfl) ?_
    obtain ⟨r15, hr15, hf⟩ := ob hf
    refine kcv (kS (As := [.ref (wAd w 90), .ref (wAd w 91), .ref (wAd w 93), .ref (wAd w 94), .ref (wAd w 95), .ref (wAd w 96), .ref (wAd w 97), .ref (wAd w 98)]) (rest := []) C hl.1 hP hS (c_L_lay w l C.2.2.2.2.2.2.2.2 hN (L := L) hr15) (gS q390 q391 q0 q392) hd_L_lay ⟨rfl, rfl⟩ ⟨Nat.le_of_ble_eq_true rfl, Nat.le_of_ble_eq_true rfl⟩ rfl rfl (Nat.le_of_ble_eq_true rfl) dL_ahead_176 ⟨Nat.le_of_ble_eq_true rfl, Nat.le_of_ble_eq_true rfl⟩) hS (fun H locs hP hS => ?_)
    refine lv_aload C.1 C.2.1 dL_ahead_179 (lv_at hl 4 rfl) ?_
    refine lv_aload C.1 C.2.1 dL_ahead_181 (lv_at hl 9 rfl) ?_
    obtain ⟨r16, hr16, hf⟩ := ob hf
    refine kci (kS (As := [.ref (wAd w 93), .ref (wAd w 98)]) (rest := []) C hl.1 hP hS (c_L_exceedances w l C.2.2.2.2.2.2.2.2 hN (L := L) hr16) (gS q478 q479 q0 q480) hd_L_exceedances ⟨rfl, rfl⟩ ⟨Nat.le_of_ble_eq_true rfl, Nat.le_of_ble_eq_true rfl⟩ rfl rfl (Nat.le_of_ble_eq_true rfl) dL_ahead_183 ⟨Nat.le_of_ble_eq_true rfl, Nat.le_of_ble_eq_true rfl⟩) hS (fun H locs hP hS => ?_)
    refine lv_iload C.1 C.2.1 dL_ahead_186 (lv_at hl 11 rfl) ?_
    refine lv_icmp_gt (tgt := 196) C.1 C.2.1 dL_ahead_188 (by decide) (fun c17 => ?_) (fun c17 => ?_)
    · have hf := (if_pos c17).symm.trans hf
      refine lv_iload C.1 C.2.1 dL_ahead_196 (lv_at hl 12 rfl) ?_
      exact w_L_ahead_j198 C hN hT hf hA hE _ _ _ hP hS (lv_sub hl [0, 1, 2, 3, 4, 5, 6, 7, 8, 9, 10, 11, 13] rfl)
    · have hf := (if_neg c17).symm.trans hf
      refine lv_iload C.1 C.2.1 dL_ahead_191 (lv_at hl 13 rfl) ?_
      refine lv_goto (tgt := 198) C.1 C.2.1 dL_ahead_193 (by decide) ?_
      exact w_L_ahead_j198 C hN hT hf hA hE _ _ _ hP hS (lv_sub hl [0, 1, 2, 3, 4, 5, 6, 7, 8, 9, 10, 11, 13] rfl)
set_option maxHeartbeats 4000000 in
set_option maxRecDepth 100000 in
theorem w_L_ahead_j312 {w : WT} {l : Launch} {p : Program} {e : Env} {s : State} {m : MethodId} {args : Array Value} {below : List Frame} {meth : Method} {c : Code} (C : KC w p s m args meth c cL_ahead 25 RL (some .boolean)) (hN : 99 ≤ wN w) (hT : wN w = 99) {v19 : Int32} {v20 : Int32} {v22 : Int32} {s0 : Int32} {M : Mem} {L : Lng} {Q : State → Prop} {o : (Int32 × Int32) ⊕ (Int32)} (hf : f_L_ahead_j312 v19 v20 v22 s0 M = some o) (hA : ∀ z, o = .inl z → AtC w p l e ({ frames := 6, cells := 5, slots := 246, locals := 139 } : Room) s m args below meth c Q 25 284 M L [(0, .ref (wAd w 0)), (4, .ref (wAd w 91)), (6, .ref (wAd w 93)), (7, .ref (wAd w 94)), (19, .int v19), (20, .int v20), (21, .int z.1), (22, .int z.2)] [] 5 246) (hE : ∀ y, o = .inr y → AtC w p l e ({ frames := 6, cells := 5, slots := 246, locals := 139 } : Room) s m args below meth c Q 25 320 M L [(0, .ref (wAd w 0)), (6, .ref (wAd w 93)), (7, .ref (wAd w 94)), (19, .int v19), (20, .int v20), (21, .int y)] [] 5 246) : AtC w p l e ({ frames := 6, cells := 5, slots := 246, locals := 139 } : Room) s m args below meth c Q 25 312 M L [(0, .ref (wAd w 0)), (4, .ref (wAd w 91)), (6, .ref (wAd w 93)), (7, .ref (wAd w 94)), (19, .int v19), (20, .int v20), (22, .int v22)] [.int s0] 5 246 := by
  intro H locs ls hP hS hl
  unfold f_L_ahead_j312 at hf
  refine lv_istore (lv' := [(21, .int s0), (0, .ref (wAd w 0)), (4, .ref (wAd w 91)), (6, .ref (wAd w 93)), (7, .ref (wAd w 94)), (19, .int v19), (20, .int v20), (22, .int v22)]) C.1 C.2.1 dL_ahead_312 hl (by decide) rfl (fun ls hl => ?_)
  refine lv_iinc (v := (v22 + 1)) (lv' := [(22, .int (v22 + 1)), (21, .int s0), (0, .ref (wAd w 0)), (4, .ref (wAd w 91)), (6, .ref (wAd w 93)), (7, .ref (wAd w 94)), (19, .int v19), (20, .int v20)]) C.1 C.2.1 dL_ahead_314 hl (k := 7) rfl rfl (by decide) rfl (fun ls hl => ?_)
  refine lv_goto (tgt := 284) C.1 C.2.1 dL_ahead_317 (by decide) ?_
  cases hf
  exact hA _ rfl _ _ _ hP hS (lv_sub hl [2, 3, 4, 5, 6, 7, 1, 0] rfl)
set_option maxHeartbeats 4000000 in
set_option maxRecDepth 100000 in
theorem w_L_ahead_l284 {w : WT} {l : Launch} {p : Program} {e : Env} {s : State} {m : MethodId} {args : Array Value} {below : List Frame} {meth : Method} {c : Code} (C : KC w p s m args meth c cL_ahead 25 RL (some .boolean)) (hN : 99 ≤ wN w) (hT : wN w = 99) {v19 : Int32} {v20 : Int32} {M : Mem} {L : Lng} {Q : State → Prop} (z : Int32 × Int32) (o : (Int32 × Int32) ⊕ (Int32)) (hf : f_L_ahead_l284 v19 v20 M z = some o) (hA : ∀ z, o = .inl z → AtC w p l e ({ frames := 6, cells := 5, slots := 246, locals := 139 } : Room) s m args below meth c Q 25 284 M L [(0, .ref (wAd w 0)), (4, .ref (wAd w 91)), (6, .ref (wAd w 93)), (7, .ref (wAd w 94)), (19, .int v19), (20, .int v20), (21, .int z.1), (22, .int z.2)] [] 5 246) (hE : ∀ y, o = .inr y → AtC w p l e ({ frames := 6, cells := 5, slots := 246, locals := 139 } : Room) s m args below meth c Q 25 320 M L [(0, .ref (wAd w 0)), (6, .ref (wAd w 93)), (7, .ref (wAd w 94)), (19, .int v19), (20, .int v20), (21, .int y)] [] 5 246) : AtC w p l e ({ frames := 6, cells := 5, slots := 246, locals := 139 } : Room) s m args below meth c Q 25 284 M L [(0, .ref (wAd w 0)), (4, .ref (wAd w 91)), (6, .ref (wAd w 93)), (7, .ref (wAd w 94)), (19, .int v19), (20, .int v20), (21, .int z.1), (22, .int z.2)] [] 5 246 := by
  intro H locs ls hP hS hl
  unfold f_L_ahead_l284 at hf
  refine lv_iload C.1 C.2.1 dL_ahead_284 (lv_at hl 7 rfl) ?_
  refine lv_aload C.1 C.2.1 dL_ahead_286 (lv_at hl 2 rfl) ?_
  refine lv_iconst (v := 0) C.1 C.2.1 dL_ahead_288 (by decide) ?_
  obtain ⟨x28, hx28, hf⟩ := ob hf
  refine k_iald C hP (C9 C (Nat.le_of_ble_eq_true rfl)) (ar_L93 w L _) hx28 dL_ahead_289 ?_
  refine lv_icmp_ge (tgt := 320) C.1 C.2.1 dL_ahead_290 (by decide) (fun c29 => ?_) (fun c29 => ?_)
  · have hf := (if_pos c29).symm.trans hf
    cases hf
    exact hE _ rfl _ _ _ hP hS (lv_sub hl [0, 2, 3, 4, 5, 6] rfl)
  · have hf := (if_neg c29).symm.trans hf
    refine lv_aload C.1 C.2.1 dL_ahead_293 (lv_at hl 1 rfl) ?_
    refine lv_iload C.1 C.2.1 dL_ahead_295 (lv_at hl 7 rfl) ?_
    obtain ⟨x30, hx30, hf⟩ := ob hf
    refine k_iald C hP (C9 C (Nat.le_of_ble_eq_true rfl)) (ar_L91 w L _) hx30 dL_ahead_297 ?_
    refine lv_aload C.1 C.2.1 dL_ahead_298 (lv_at hl 3 rfl) ?_
    refine lv_iconst (v := 4) C.1 C.2.1 dL_ahead_300 (by decide) ?_
    obtain ⟨x31, hx31, hf⟩ := ob hf
    refine k_iald C hP (C9 C (Nat.le_of_ble_eq_true rfl)) (ar_L94 w L _) hx31 dL_ahead_301 ?_
    refine lv_icmp_lt (tgt := 310) C.1 C.2.1 dL_ahead_302 (by decide) (fun c32 => ?_) (fun c32 => ?_)
    · have hf := (if_pos c32).symm.trans hf
      refine lv_iload C.1 C.2.1 dL_ahead_310 (lv_at hl 6 rfl) ?_
      exact w_L_ahead_j312 C hN hT hf hA hE _ _ _ hP hS (lv_sub hl [0, 1, 2, 3, 4, 5, 7] rfl)
    · have hf := (if_neg c32).symm.trans hf
      refine lv_iload C.1 C.2.1 dL_ahead_305 (lv_at hl 7 rfl) ?_
      refine lv_goto (tgt := 312) C.1 C.2.1 dL_ahead_307 (by decide) ?_
      exact w_L_ahead_j312 C hN hT hf hA hE _ _ _ hP hS (lv_sub hl [0, 1, 2, 3, 4, 5, 7] rfl)
set_option maxHeartbeats 4000000 in
set_option maxRecDepth 100000 in
theorem w_L_ahead_j399 {w : WT} {l : Launch} {p : Program} {e : Env} {s : State} {m : MethodId} {args : Array Value} {below : List Frame} {meth : Method} {c : Code} (C : KC w p s m args meth c cL_ahead 25 RL (some .boolean)) (hN : 99 ≤ wN w) (hT : wN w = 99) {v19 : Int32} {v20 : Int32} {v21 : Int32} {v22 : Int32} {v23 : Int32} {M : Mem} {L : Lng} {Q : State → Prop} {o : (Int32 × Int32 × Int32) ⊕ (Int32)} (hf : f_L_ahead_j399 v19 v20 v21 v22 v23 M = some o) (hA : ∀ z, o = .inl z → AtC w p l e ({ frames := 6, cells := 5, slots := 246, locals := 139 } : Room) s m args below meth c Q 25 326 M L [(0, .ref (wAd w 0)), (6, .ref (wAd w 93)), (7, .ref (wAd w 94)), (19, .int v19), (20, .int z.1), (21, .int v21), (22, .int z.2.1), (23, .int z.2.2)] [] 5 246) (hE : ∀ y, o = .inr y → AtC w p l e ({ frames := 6, cells := 5, slots := 246, locals := 139 } : Room) s m args below meth c Q 25 405 M L [(0, .ref (wAd w 0)), (19, .int v19), (22, .int y)] [] 5 246) : AtC w p l e ({ frames := 6, cells := 5, slots := 246, locals := 139 } : Room) s m args below meth c Q 25 399 M L [(0, .ref (wAd w 0)), (6, .ref (wAd w 93)), (7, .ref (wAd w 94)), (19, .int v19), (20, .int v20), (21, .int v21), (22, .int v22), (23, .int v23)] [] 5 246 := by
  intro H locs ls hP hS hl
  unfold f_L_ahead_j399 at hf
  refine lv_iinc (v := (v23 + 1)) (lv' := [(23, .int (v23 + 1)), (0, .ref (wAd w 0)), (6, .ref (wAd w 93)), (7, .ref (wAd w 94)), (19, .int v19), (20, .int v20), (21, .int v21), (22, .int v22)]) C.1 C.2.1 dL_ahead_399 hl (k := 7) rfl rfl (by decide) rfl (fun ls hl => ?_)
  refine lv_goto (tgt := 326) C.1 C.2.1 dL_ahead_402 (by decide) ?_
  cases hf
  exact hA _ rfl _ _ _ hP hS (lv_sub hl [1, 2, 3, 4, 5, 6, 7, 0] rfl)
set_option maxHeartbeats 4000000 in
set_option maxRecDepth 100000 in
theorem w_L_ahead_l326 {w : WT} {l : Launch} {p : Program} {e : Env} {s : State} {m : MethodId} {args : Array Value} {below : List Frame} {meth : Method} {c : Code} (C : KC w p s m args meth c cL_ahead 25 RL (some .boolean)) (hN : 99 ≤ wN w) (hT : wN w = 99) {v19 : Int32} {v21 : Int32} {M : Mem} {L : Lng} {Q : State → Prop} (z : Int32 × Int32 × Int32) (o : (Int32 × Int32 × Int32) ⊕ (Int32)) (hf : f_L_ahead_l326 v19 v21 M z = some o) (hA : ∀ z, o = .inl z → AtC w p l e ({ frames := 6, cells := 5, slots := 246, locals := 139 } : Room) s m args below meth c Q 25 326 M L [(0, .ref (wAd w 0)), (6, .ref (wAd w 93)), (7, .ref (wAd w 94)), (19, .int v19), (20, .int z.1), (21, .int v21), (22, .int z.2.1), (23, .int z.2.2)] [] 5 246) (hE : ∀ y, o = .inr y → AtC w p l e ({ frames := 6, cells := 5, slots := 246, locals := 139 } : Room) s m args below meth c Q 25 405 M L [(0, .ref (wAd w 0)), (19, .int v19), (22, .int y)] [] 5 246) : AtC w p l e ({ frames := 6, cells := 5, slots := 246, locals := 139 } : Room) s m args below meth c Q 25 326 M L [(0, .ref (wAd w 0)), (6, .ref (wAd w 93)), (7, .ref (wAd w 94)), (19, .int v19), (20, .int z.1), (21, .int v21), (22, .int z.2.1), (23, .int z.2.2)] [] 5 246 := by
  intro H locs ls hP hS hl
  unfold f_L_ahead_l326 at hf
  refine lv_iload C.1 C.2.1 dL_ahead_326 (lv_at hl 7 rfl) ?_
  refine lv_bipush (v := 100) C.1 C.2.1 dL_ahead_328 (by decide) ?_
  refine lv_icmp_gt (tgt := 405) C.1 C.2.1 dL_ahead_330 (by decide) (fun c34 => ?_) (fun c34 => ?_)
  · have hf := (if_pos c34).symm.trans hf
    cases hf
    exact hE _ rfl _ _ _ hP hS (lv_sub hl [0, 3, 6] rfl)
  · have hf := (if_neg c34).symm.trans hf
    refine lv_iload C.1 C.2.1 dL_ahead_333 (lv_at hl 6 rfl) ?_
    refine lv_if_ge (tgt := 405) C.1 C.2.1 dL_ahead_335 (by decide) (fun c35 => ?_) (fun c35 => ?_)
    · have hf := (if_pos c35).symm.trans hf
      cases hf
      exact hE _ rfl _ _ _ hP hS (lv_sub hl [0, 3, 6] rfl)
    · have hf := (if_neg c35).symm.trans hf
      refine lv_aload C.1 C.2.1 dL_ahead_338 (lv_at hl 1 rfl) ?_
      refine lv_iconst (v := 0) C.1 C.2.1 dL_ahead_340 (by decide) ?_
      obtain ⟨x36, hx36, hf⟩ := ob hf
      refine k_iald C hP (C9 C (Nat.le_of_ble_eq_true rfl)) (ar_L93 w L _) hx36 dL_ahead_341 ?_
      refine lv_iload C.1 C.2.1 dL_ahead_342 (lv_at hl 7 rfl) ?_
      refine lv_iadd C.1 C.2.1 dL_ahead_344 ?_
      refine lv_iconst (v := 1) C.1 C.2.1 dL_ahead_345 (by decide) ?_
      refine lv_isub C.1 C.2.1 dL_ahead_346 ?_
      refine lv_istore (lv' := [(24, .int ((x36 + z.2.2) - 1)), (0, .ref (wAd w 0)), (6, .ref (wAd w 93)), (7, .ref (wAd w 94)), (19, .int v19), (20, .int z.1), (21, .int v21), (22, .int z.2.1), (23, .int z.2.2)]) C.1 C.2.1 dL_ahead_347 hl (by decide) rfl (fun ls hl => ?_)
      refine lv_iload C.1 C.2.1 dL_ahead_349 (lv_at hl 5 rfl) ?_
      refine lv_bipush (v := 10) C.1 C.2.1 dL_ahead_351 (by decide) ?_
      refine lv_iload C.1 C.2.1 dL_ahead_353 (lv_at hl 4 rfl) ?_
      refine lv_imul C.1 C.2.1 dL_ahead_355 ?_
      refine lv_iload C.1 C.2.1 dL_ahead_356 (lv_at hl 5 rfl) ?_
      refine lv_isub C.1 C.2.1 dL_ahead_358 ?_
      refine lv_aload C.1 C.2.1 dL_ahead_359 (lv_at hl 3 rfl) ?_
      refine lv_bipush (v := 9) C.1 C.2.1 dL_ahead_361 (by decide) ?_
      obtain ⟨x37, hx37, hf⟩ := ob hf
      refine k_iald C hP (C9 C (Nat.le_of_ble_eq_true rfl)) (ar_L94 w L _) hx37 dL_ahead_363 ?_
      obtain ⟨x38, hx38, hf⟩ := ob hf
      refine k_idiv C hx38 dL_ahead_364 ?_
      refine lv_iadd C.1 C.2.1 dL_ahead_365 ?_
      refine lv_istore (lv' := [(20, .int (z.1 + x38)), (24, .int ((x36 + z.2.2) - 1)), (0, .ref (wAd w 0)), (6, .ref (wAd w 93)), (7, .ref (wAd w 94)), (19, .int v19), (21, .int v21), (22, .int z.2.1), (23, .int z.2.2)]) C.1 C.2.1 dL_ahead_366 hl (by decide) rfl (fun ls hl => ?_)
      refine lv_iload C.1 C.2.1 dL_ahead_368 (lv_at hl 1 rfl) ?_
      refine lv_iload C.1 C.2.1 dL_ahead_370 (lv_at hl 6 rfl) ?_
      refine lv_isub C.1 C.2.1 dL_ahead_372 ?_
      refine lv_aload C.1 C.2.1 dL_ahead_373 (lv_at hl 4 rfl) ?_
      refine lv_iconst (v := 5) C.1 C.2.1 dL_ahead_375 (by decide) ?_
      obtain ⟨x39, hx39, hf⟩ := ob hf
      refine k_iald C hP (C9 C (Nat.le_of_ble_eq_true rfl)) (ar_L94 w L _) hx39 dL_ahead_376 ?_
      refine lv_icmp_le (tgt := 399) C.1 C.2.1 dL_ahead_377 (by decide) (fun c40 => ?_) (fun c40 => ?_)
      · have hf := (if_pos c40).symm.trans hf
        exact w_L_ahead_j399 C hN hT hf hA hE _ _ _ hP hS (lv_sub hl [2, 3, 4, 5, 0, 6, 7, 8] rfl)
      · have hf := (if_neg c40).symm.trans hf
        refine lv_iload C.1 C.2.1 dL_ahead_380 (lv_at hl 0 rfl) ?_
        refine lv_bipush (v := 10) C.1 C.2.1 dL_ahead_382 (by decide) ?_
        refine lv_iload C.1 C.2.1 dL_ahead_384 (lv_at hl 1 rfl) ?_
        refine lv_aload C.1 C.2.1 dL_ahead_386 (lv_at hl 4 rfl) ?_
        obtain ⟨r41, hr41, hf⟩ := ob hf
        refine kci (kS (As := [.int ((x36 + z.2.2) - 1), .ref (wAd w 94)]) (rest := [.int 10, .int (z.1 + x38)]) C hl.1 hP hS (c_L_limit w l C.2.2.2.2.2.2.2.2 (L := L) hr41) (gS q393 q394 q0 q395) hd_L_limit ⟨rfl, rfl⟩ ⟨Nat.le_of_ble_eq_true rfl, Nat.le_of_ble_eq_true rfl⟩ rfl rfl (Nat.le_of_ble_eq_true rfl) dL_ahead_388 ⟨Nat.le_of_ble_eq_true rfl, Nat.le_of_ble_eq_true rfl⟩) hS (fun H locs hP hS => ?_)
        refine lv_imul C.1 C.2.1 dL_ahead_391 ?_
        refine lv_icmp_le (tgt := 399) C.1 C.2.1 dL_ahead_392 (by decide) (fun c42 => ?_) (fun c42 => ?_)
        · have hf := (if_pos c42).symm.trans hf
          exact w_L_ahead_j399 C hN hT hf hA hE _ _ _ hP hS (lv_sub hl [2, 3, 4, 5, 0, 6, 7, 8] rfl)
        · have hf := (if_neg c42).symm.trans hf
          refine lv_iload C.1 C.2.1 dL_ahead_395 (lv_at hl 8 rfl) ?_
          refine lv_istore (lv' := [(22, .int z.2.2), (20, .int (z.1 + x38)), (24, .int ((x36 + z.2.2) - 1)), (0, .ref (wAd w 0)), (6, .ref (wAd w 93)), (7, .ref (wAd w 94)), (19, .int v19), (21, .int v21), (23, .int z.2.2)]) C.1 C.2.1 dL_ahead_397 hl (by decide) rfl (fun ls hl => ?_)
          exact w_L_ahead_j399 C hN hT hf hA hE _ _ _ hP hS (lv_sub hl [3, 4, 5, 6, 1, 7, 0, 8] rfl)
set_option maxHeartbeats 4000000 in
set_option maxRecDepth 100000 in
theorem w_L_ahead_j405 {w : WT} {l : Launch} {p : Program} {e : Env} {s : State} {m : MethodId} {args : Array Value} {below : List Frame} {meth : Method} {c : Code} (C : KC w p s m args meth c cL_ahead 25 RL (some .boolean)) (hN : 99 ≤ wN w) (hT : wN w = 99) {v19 : Int32} {v22 : Int32} {M : Mem} {L : Lng} {out : Int32 × Mem} (hf : f_L_ahead_j405 v19 v22 M = some out) : AtC w p l e ({ frames := 6, cells := 5, slots := 246, locals := 139 } : Room) s m args below meth c (MQ below (QI w out.1 out.2 L) args s 5 246 (wA w)) 25 405 M L [(0, .ref (wAd w 0)), (19, .int v19), (22, .int v22)] [] 5 246 := by
  intro H locs ls hP hS hl
  unfold f_L_ahead_j405 at hf
  refine lv_aload_n C.1 C.2.1 dL_ahead_405 rfl (lv_at hl 0 rfl) ?_
  refine lv_iload C.1 C.2.1 dL_ahead_406 (lv_at hl 1 rfl) ?_
  obtain ⟨r44, hr44, hf⟩ := ob hf
  refine kci (kV (As := [.int v19]) (rest := []) C hl.1 hP hS (c_X8_aboveIn w l C.2.2.2.2.2.2.2.2 (L := L) hr44) (gV q611 q612 q613 q1 q614) hd_X8_aboveIn (C9 C (lt_NoisePost h0_NoisePost)) (ob_NoisePost h0_NoisePost w L _) rfl ⟨rfl, rfl⟩ ⟨Nat.le_of_ble_eq_true rfl, Nat.le_of_ble_eq_true rfl⟩ rfl rfl (Nat.le_of_ble_eq_true rfl) dL_ahead_408 ⟨Nat.le_of_ble_eq_true rfl, Nat.le_of_ble_eq_true rfl⟩) hS (fun H locs hP hS => ?_)
  refine lv_iload C.1 C.2.1 dL_ahead_411 (lv_at hl 2 rfl) ?_
  refine lv_icmp_ne (tgt := 420) C.1 C.2.1 dL_ahead_413 (by decide) (fun c45 => ?_) (fun c45 => ?_)
  · have hf := (if_neg c45).symm.trans hf
    refine lv_iconst (v := 0) C.1 C.2.1 dL_ahead_420 (by decide) ?_
    cases hf
    exact krz C hP hS bz0 dL_ahead_421
  · have hf := (if_pos c45).symm.trans hf
    refine lv_iconst (v := 1) C.1 C.2.1 dL_ahead_416 (by decide) ?_
    refine lv_goto (tgt := 421) C.1 C.2.1 dL_ahead_417 (by decide) ?_
    cases hf
    exact krz C hP hS bz1 dL_ahead_421
set_option maxHeartbeats 4000000 in
set_option maxRecDepth 100000 in
theorem w_L_ahead_j320 {w : WT} {l : Launch} {p : Program} {e : Env} {s : State} {m : MethodId} {args : Array Value} {below : List Frame} {meth : Method} {c : Code} (C : KC w p s m args meth c cL_ahead 25 RL (some .boolean)) (hN : 99 ≤ wN w) (hT : wN w = 99) {v19 : Int32} {v20 : Int32} {v21 : Int32} {M : Mem} {L : Lng} {out : Int32 × Mem} (hf : f_L_ahead_j320 v19 v20 v21 M = some out) : AtC w p l e ({ frames := 6, cells := 5, slots := 246, locals := 139 } : Room) s m args below meth c (MQ below (QI w out.1 out.2 L) args s 5 246 (wA w)) 25 320 M L [(0, .ref (wAd w 0)), (6, .ref (wAd w 93)), (7, .ref (wAd w 94)), (19, .int v19), (20, .int v20), (21, .int v21)] [] 5 246 := by
  intro H locs ls hP hS hl
  unfold f_L_ahead_j320 at hf
  refine lv_iconst (v := (-1)) C.1 C.2.1 dL_ahead_320 (by decide) ?_
  refine lv_istore (lv' := [(22, .int (-1)), (0, .ref (wAd w 0)), (6, .ref (wAd w 93)), (7, .ref (wAd w 94)), (19, .int v19), (20, .int v20), (21, .int v21)]) C.1 C.2.1 dL_ahead_321 hl (by decide) rfl (fun ls hl => ?_)
  refine lv_iconst (v := 1) C.1 C.2.1 dL_ahead_323 (by decide) ?_
  refine lv_istore (lv' := [(23, .int 1), (22, .int (-1)), (0, .ref (wAd w 0)), (6, .ref (wAd w 93)), (7, .ref (wAd w 94)), (19, .int v19), (20, .int v20), (21, .int v21)]) C.1 C.2.1 dL_ahead_324 hl (by decide) rfl (fun ls hl => ?_)
  obtain ⟨o43, ho43, hf⟩ := ob hf
  refine loop_at (w_L_ahead_l326 C hN hT) FU _ o43 ho43 ?_ _ _ _ hP hS (lv_sub hl [2, 3, 4, 5, 6, 7, 1, 0] rfl)
  intro H locs ls hP hS hl
  exact w_L_ahead_j405 C hN hT hf _ _ _ hP hS hl
set_option maxHeartbeats 4000000 in
set_option maxRecDepth 100000 in
theorem w_L_ahead_j275 {w : WT} {l : Launch} {p : Program} {e : Env} {s : State} {m : MethodId} {args : Array Value} {below : List Frame} {meth : Method} {c : Code} (C : KC w p s m args meth c cL_ahead 25 RL (some .boolean)) (hN : 99 ≤ wN w) (hT : wN w = 99) {v19 : Int32} {s0 : Int32} {M : Mem} {L : Lng} {out : Int32 × Mem} (hf : f_L_ahead_j275 v19 s0 M = some out) : AtC w p l e ({ frames := 6, cells := 5, slots := 246, locals := 139 } : Room) s m args below meth c (MQ below (QI w out.1 out.2 L) args s 5 246 (wA w)) 25 275 M L [(0, .ref (wAd w 0)), (4, .ref (wAd w 91)), (6, .ref (wAd w 93)), (7, .ref (wAd w 94)), (19, .int v19)] [.int s0] 5 246 := by
  intro H locs ls hP hS hl
  unfold f_L_ahead_j275 at hf
  refine lv_istore (lv' := [(20, .int s0), (0, .ref (wAd w 0)), (4, .ref (wAd w 91)), (6, .ref (wAd w 93)), (7, .ref (wAd w 94)), (19, .int v19)]) C.1 C.2.1 dL_ahead_275 hl (by decide) rfl (fun ls hl => ?_)
  refine lv_bipush (v := (-100)) C.1 C.2.1 dL_ahead_277 (by decide) ?_
  refine lv_istore (lv' := [(21, .int (-100)), (20, .int s0), (0, .ref (wAd w 0)), (4, .ref (wAd w 91)), (6, .ref (wAd w 93)), (7, .ref (wAd w 94)), (19, .int v19)]) C.1 C.2.1 dL_ahead_279 hl (by decide) rfl (fun ls hl => ?_)
  refine lv_iconst (v := 0) C.1 C.2.1 dL_ahead_281 (by decide) ?_
  refine lv_istore (lv' := [(22, .int 0), (21, .int (-100)), (20, .int s0), (0, .ref (wAd w 0)), (4, .ref (wAd w 91)), (6, .ref (wAd w 93)), (7, .ref (wAd w 94)), (19, .int v19)]) C.1 C.2.1 dL_ahead_282 hl (by decide) rfl (fun ls hl => ?_)
  obtain ⟨o33, ho33, hf⟩ := ob hf
  refine loop_at (w_L_ahead_l284 C hN hT) FU _ o33 ho33 ?_ _ _ _ hP hS (lv_sub hl [3, 4, 5, 6, 7, 2, 1, 0] rfl)
  intro H locs ls hP hS hl
  exact w_L_ahead_j320 C hN hT hf _ _ _ hP hS hl
set_option maxHeartbeats 4000000 in
set_option maxRecDepth 100000 in
theorem w_L_ahead_j206 {w : WT} {l : Launch} {p : Program} {e : Env} {s : State} {m : MethodId} {args : Array Value} {below : List Frame} {meth : Method} {c : Code} (C : KC w p s m args meth c cL_ahead 25 RL (some .boolean)) (hN : 99 ≤ wN w) (hT : wN w = 99) {v1 : Int32} {v14 : Int32} {v17 : Int32} {v18 : Int32} {M : Mem} {L : Lng} {out : Int32 × Mem} (hf : f_L_ahead_j206 v1 v14 v17 v18 M = some out) : AtC w p l e ({ frames := 6, cells := 5, slots := 246, locals := 139 } : Room) s m args below meth c (MQ below (QI w out.1 out.2 L) args s 5 246 (wA w)) 25 206 M L [(0, .ref (wAd w 0)), (1, .int v1), (3, .ref (wAd w 90)), (4, .ref (wAd w 91)), (6, .ref (wAd w 93)), (7, .ref (wAd w 94)), (8, .ref (wAd w 95)), (9, .ref (wAd w 96)), (10, .ref (wAd w 97)), (11, .ref (wAd w 98)), (14, .int v14), (17, .int v17), (18, .int v18)] [] 5 246 := by
  intro H locs ls hP hS hl
  unfold f_L_ahead_j206 at hf
  refine lv_aload C.1 C.2.1 dL_ahead_206 (lv_at hl 5 rfl) ?_
  refine lv_iconst (v := 0) C.1 C.2.1 dL_ahead_208 (by decide) ?_
  refine lv_iload C.1 C.2.1 dL_ahead_209 (lv_at hl 10 rfl) ?_
  obtain ⟨M19, hM19, hf⟩ := ob hf
  refine k_iast C hP hS (C9 C (Nat.le_of_ble_eq_true rfl)) (ar_L94 w L) hM19 dL_ahead_211 (fun H locs hP hS => ?_)
  refine lv_aload_n C.1 C.2.1 dL_ahead_212 rfl (lv_at hl 0 rfl) ?_
  refine lv_iload C.1 C.2.1 dL_ahead_213 (lv_at hl 11 rfl) ?_
  obtain ⟨r20, hr20, hf⟩ := ob hf
  refine kci (kV (As := [.int v17]) (rest := []) C hl.1 hP hS (c_X8_leastLimit w l C.2.2.2.2.2.2.2.2 (L := L) hr20) (gV q592 q593 q594 q1 q595) hd_X8_leastLimit (C9 C (lt_NoisePost h0_NoisePost)) (ob_NoisePost h0_NoisePost w L _) rfl ⟨rfl, rfl⟩ ⟨Nat.le_of_ble_eq_true rfl, Nat.le_of_ble_eq_true rfl⟩ rfl rfl (Nat.le_of_ble_eq_true rfl) dL_ahead_215 ⟨Nat.le_of_ble_eq_true rfl, Nat.le_of_ble_eq_true rfl⟩) hS (fun H locs hP hS => ?_)
  refine lv_iload C.1 C.2.1 dL_ahead_218 (lv_at hl 12 rfl) ?_
  refine lv_icmp_eq (tgt := 225) C.1 C.2.1 dL_ahead_220 (by decide) (fun c21 => ?_) (fun c21 => ?_)
  · have hf := (if_pos c21).symm.trans hf
    refine lv_aload_n C.1 C.2.1 dL_ahead_225 rfl (lv_at hl 2 rfl) ?_
    refine lv_aload C.1 C.2.1 dL_ahead_226 (lv_at hl 3 rfl) ?_
    refine lv_aload C.1 C.2.1 dL_ahead_228 (lv_at hl 4 rfl) ?_
    refine lv_aload C.1 C.2.1 dL_ahead_230 (lv_at hl 5 rfl) ?_
    refine lv_aload C.1 C.2.1 dL_ahead_232 (lv_at hl 6 rfl) ?_
    refine lv_aload C.1 C.2.1 dL_ahead_234 (lv_at hl 7 rfl) ?_
    refine lv_aload C.1 C.2.1 dL_ahead_236 (lv_at hl 8 rfl) ?_
    refine lv_aload C.1 C.2.1 dL_ahead_238 (lv_at hl 9 rfl) ?_
    obtain ⟨r22, hr22, hf⟩ := ob hf
    refine kcv (kS (As := [.ref (wAd w 90), .ref (wAd w 91), .ref (wAd w 93), .ref (wAd w 94), .ref (wAd w 95), .ref (wAd w 96), .ref (wAd w 97), .ref (wAd w 98)]) (rest := []) C hl.1 hP hS (c_L_lay w l C.2.2.2.2.2.2.2.2 hN (L := L) hr22) (gS q390 q391 q0 q392) hd_L_lay ⟨rfl, rfl⟩ ⟨Nat.le_of_ble_eq_true rfl, Nat.le_of_ble_eq_true rfl⟩ rfl rfl (Nat.le_of_ble_eq_true rfl) dL_ahead_240 ⟨Nat.le_of_ble_eq_true rfl, Nat.le_of_ble_eq_true rfl⟩) hS (fun H locs hP hS => ?_)
    refine lv_iload_n C.1 C.2.1 dL_ahead_243 rfl (lv_at hl 1 rfl) ?_
    refine lv_bipush (v := 7) C.1 C.2.1 dL_ahead_244 (by decide) ?_
    refine lv_ishr C.1 C.2.1 dL_ahead_246 ?_
    refine lv_sipush (v := 141) C.1 C.2.1 dL_ahead_247 (by decide) ?_
    obtain ⟨r23, hr23, hf⟩ := ob hf
    refine kci (kS (As := [.int (v1 >>> (7 &&& 31)), .int 141]) (rest := []) C hl.1 hP hS (c_L_at w l C.2.2.2.2.2.2.2.2 (L := L) hr23) (gS q384 q385 q0 q386) hd_L_at ⟨rfl, rfl⟩ ⟨Nat.le_of_ble_eq_true rfl, Nat.le_of_ble_eq_true rfl⟩ rfl rfl (Nat.le_of_ble_eq_true rfl) dL_ahead_250 ⟨Nat.le_of_ble_eq_true rfl, Nat.le_of_ble_eq_true rfl⟩) hS (fun H locs hP hS => ?_)
    refine lv_istore (lv' := [(19, .int r23), (0, .ref (wAd w 0)), (1, .int v1), (3, .ref (wAd w 90)), (4, .ref (wAd w 91)), (6, .ref (wAd w 93)), (7, .ref (wAd w 94)), (8, .ref (wAd w 95)), (9, .ref (wAd w 96)), (10, .ref (wAd w 97)), (11, .ref (wAd w 98)), (14, .int v14), (17, .int v17), (18, .int v18)]) C.1 C.2.1 dL_ahead_253 hl (by decide) rfl (fun ls hl => ?_)
    refine lv_aload C.1 C.2.1 dL_ahead_255 (lv_at hl 5 rfl) ?_
    refine lv_iconst (v := 0) C.1 C.2.1 dL_ahead_257 (by decide) ?_
    obtain ⟨x24, hx24, hf⟩ := ob hf
    refine k_iald C hP (C9 C (Nat.le_of_ble_eq_true rfl)) (ar_L93 w L _) hx24 dL_ahead_258 ?_
    refine lv_if_ne (tgt := 266) C.1 C.2.1 dL_ahead_259 (by decide) (fun c25 => ?_) (fun c25 => ?_)
    · have hf := (if_neg c25).symm.trans hf
      refine lv_aload C.1 C.2.1 dL_ahead_266 (lv_at hl 8 rfl) ?_
      refine lv_aload C.1 C.2.1 dL_ahead_268 (lv_at hl 5 rfl) ?_
      refine lv_iconst (v := 0) C.1 C.2.1 dL_ahead_270 (by decide) ?_
      obtain ⟨x26, hx26, hf⟩ := ob hf
      refine k_iald C hP (C9 C (Nat.le_of_ble_eq_true rfl)) (ar_L93 w L _) hx26 dL_ahead_271 ?_
      refine lv_iconst (v := 1) C.1 C.2.1 dL_ahead_272 (by decide) ?_
      refine lv_isub C.1 C.2.1 dL_ahead_273 ?_
      obtain ⟨x27, hx27, hf⟩ := ob hf
      refine k_iald C hP (Nat.lt_of_lt_of_le (Nat.le_of_ble_eq_true rfl) hN) (ar_L96 w L _) hx27 dL_ahead_274 ?_
      exact w_L_ahead_j275 C hN hT hf _ _ _ hP hS (lv_sub hl [1, 4, 5, 6, 0] rfl)
    · have hf := (if_pos c25).symm.trans hf
      refine lv_iconst (v := 0) C.1 C.2.1 dL_ahead_262 (by decide) ?_
      refine lv_goto (tgt := 275) C.1 C.2.1 dL_ahead_263 (by decide) ?_
      exact w_L_ahead_j275 C hN hT hf _ _ _ hP hS (lv_sub hl [1, 4, 5, 6, 0] rfl)
  · have hf := (if_neg c21).symm.trans hf
    refine lv_iconst (v := 0) C.1 C.2.1 dL_ahead_223 (by decide) ?_
    cases hf
    exact krz C hP hS bz0 dL_ahead_224
set_option maxHeartbeats 4000000 in
set_option maxRecDepth 100000 in
theorem w_L_ahead_j24 {w : WT} {l : Launch} {p : Program} {e : Env} {s : State} {m : MethodId} {args : Array Value} {below : List Frame} {meth : Method} {c : Code} (C : KC w p s m args meth c cL_ahead 25 RL (some .boolean)) (hN : 99 ≤ wN w) (hT : wN w = 99) {v1 : Int32} {v2 : Int32} {M : Mem} {L : Lng} {out : Int32 × Mem} (hf : f_L_ahead_j24 v1 v2 M = some out) : AtC w p l e ({ frames := 6, cells := 5, slots := 246, locals := 139 } : Room) s m args below meth c (MQ below (QI w out.1 out.2 L) args s 5 246 (wA w)) 25 24 M L [(0, .ref (wAd w 0)), (1, .int v1), (2, .int v2), (3, .ref (wAd w 90)), (4, .ref (wAd w 91)), (5, .ref (wAd w 92)), (6, .ref (wAd w 93)), (7, .ref (wAd w 94)), (8, .ref (wAd w 95)), (9, .ref (wAd w 96)), (10, .ref (wAd w 97)), (11, .ref (wAd w 98))] [] 4 240 := by
  intro H locs ls hP hS hl
  unfold f_L_ahead_j24 at hf
  refine lv_iload_n C.1 C.2.1 dL_ahead_24 rfl (lv_at hl 1 rfl) ?_
  refine lv_bipush (v := 10) C.1 C.2.1 dL_ahead_25 (by decide) ?_
  obtain ⟨r1, hr1, hf⟩ := ob hf
  refine kci (kS (As := [.int v1, .int 10]) (rest := []) C hl.1 hP hS (c_L_at w l C.2.2.2.2.2.2.2.2 (L := L) hr1) (gS q384 q385 q0 q386) hd_L_at ⟨rfl, rfl⟩ ⟨Nat.le_of_ble_eq_true rfl, Nat.le_of_ble_eq_true rfl⟩ rfl rfl (Nat.le_of_ble_eq_true rfl) dL_ahead_27 ⟨Nat.le_of_ble_eq_true rfl, Nat.le_of_ble_eq_true rfl⟩) hS (fun H locs hP hS => ?_)
  refine lv_istore (lv' := [(12, .int r1), (0, .ref (wAd w 0)), (1, .int v1), (2, .int v2), (3, .ref (wAd w 90)), (4, .ref (wAd w 91)), (5, .ref (wAd w 92)), (6, .ref (wAd w 93)), (7, .ref (wAd w 94)), (8, .ref (wAd w 95)), (9, .ref (wAd w 96)), (10, .ref (wAd w 97)), (11, .ref (wAd w 98))]) C.1 C.2.1 dL_ahead_30 hl (by decide) rfl (fun ls hl => ?_)
  refine lv_iload_n C.1 C.2.1 dL_ahead_32 rfl (lv_at hl 2 rfl) ?_
  refine lv_iconst (v := 4) C.1 C.2.1 dL_ahead_33 (by decide) ?_
  refine lv_ishr C.1 C.2.1 dL_ahead_34 ?_
  refine lv_bipush (v := 10) C.1 C.2.1 dL_ahead_35 (by decide) ?_
  obtain ⟨r2, hr2, hf⟩ := ob hf
  refine kci (kS (As := [.int (v1 >>> (4 &&& 31)), .int 10]) (rest := []) C hl.1 hP hS (c_L_at w l C.2.2.2.2.2.2.2.2 (L := L) hr2) (gS q384 q385 q0 q386) hd_L_at ⟨rfl, rfl⟩ ⟨Nat.le_of_ble_eq_true rfl, Nat.le_of_ble_eq_true rfl⟩ rfl rfl (Nat.le_of_ble_eq_true rfl) dL_ahead_37 ⟨Nat.le_of_ble_eq_true rfl, Nat.le_of_ble_eq_true rfl⟩) hS (fun H locs hP hS => ?_)
  refine lv_istore (lv' := [(13, .int r2), (12, .int r1), (0, .ref (wAd w 0)), (1, .int v1), (2, .int v2), (3, .ref (wAd w 90)), (4, .ref (wAd w 91)), (5, .ref (wAd w 92)), (6, .ref (wAd w 93)), (7, .ref (wAd w 94)), (8, .ref (wAd w 95)), (9, .ref (wAd w 96)), (10, .ref (wAd w 97)), (11, .ref (wAd w 98))]) C.1 C.2.1 dL_ahead_40 hl (by decide) rfl (fun ls hl => ?_)
  refine lv_aload C.1 C.2.1 dL_ahead_42 (lv_at hl 9 rfl) ?_
  refine lv_iload C.1 C.2.1 dL_ahead_44 (lv_at hl 1 rfl) ?_
  obtain ⟨x3, hx3, hf⟩ := ob hf
  refine k_iald C hP (C9 C (Nat.le_of_ble_eq_true rfl)) (ar_L94 w L _) hx3 dL_ahead_46 ?_
  refine lv_istore (lv' := [(14, .int x3), (13, .int r2), (12, .int r1), (0, .ref (wAd w 0)), (1, .int v1), (2, .int v2), (3, .ref (wAd w 90)), (4, .ref (wAd w 91)), (5, .ref (wAd w 92)), (6, .ref (wAd w 93)), (7, .ref (wAd w 94)), (8, .ref (wAd w 95)), (9, .ref (wAd w 96)), (10, .ref (wAd w 97)), (11, .ref (wAd w 98))]) C.1 C.2.1 dL_ahead_47 hl (by decide) rfl (fun ls hl => ?_)
  refine lv_iload C.1 C.2.1 dL_ahead_49 (lv_at hl 2 rfl) ?_
  refine lv_iload_n C.1 C.2.1 dL_ahead_51 rfl (lv_at hl 5 rfl) ?_
  obtain ⟨r4, hr4, hf⟩ := ob hf
  refine kci (kS (As := [.int r1, .int v2]) (rest := []) C hl.1 hP hS (c_L_value w l C.2.2.2.2.2.2.2.2 (L := L) hr4) (gS q509 q510 q0 q511) hd_L_value ⟨rfl, rfl⟩ ⟨Nat.le_of_ble_eq_true rfl, Nat.le_of_ble_eq_true rfl⟩ rfl rfl (Nat.le_of_ble_eq_true rfl) dL_ahead_52 ⟨Nat.le_of_ble_eq_true rfl, Nat.le_of_ble_eq_true rfl⟩) hS (fun H locs hP hS => ?_)
  refine lv_istore (lv' := [(15, .int r4), (14, .int x3), (13, .int r2), (12, .int r1), (0, .ref (wAd w 0)), (1, .int v1), (2, .int v2), (3, .ref (wAd w 90)), (4, .ref (wAd w 91)), (5, .ref (wAd w 92)), (6, .ref (wAd w 93)), (7, .ref (wAd w 94)), (8, .ref (wAd w 95)), (9, .ref (wAd w 96)), (10, .ref (wAd w 97)), (11, .ref (wAd w 98))]) C.1 C.2.1 dL_ahead_55 hl (by decide) rfl (fun ls hl => ?_)
  refine lv_aload C.1 C.2.1 dL_ahead_57 (lv_at hl 11 rfl) ?_
  refine lv_iload C.1 C.2.1 dL_ahead_59 (lv_at hl 3 rfl) ?_
  refine lv_iload C.1 C.2.1 dL_ahead_61 (lv_at hl 0 rfl) ?_
  obtain ⟨M5, hM5, hf⟩ := ob hf
  refine k_iast C hP hS (C9 C (Nat.le_of_ble_eq_true rfl)) (ar_L94 w L) hM5 dL_ahead_63 (fun H locs hP hS => ?_)
  refine lv_aload_n C.1 C.2.1 dL_ahead_64 rfl (lv_at hl 7 rfl) ?_
  refine lv_aload C.1 C.2.1 dL_ahead_65 (lv_at hl 8 rfl) ?_
  refine lv_aload C.1 C.2.1 dL_ahead_67 (lv_at hl 10 rfl) ?_
  refine lv_aload C.1 C.2.1 dL_ahead_69 (lv_at hl 11 rfl) ?_
  refine lv_aload C.1 C.2.1 dL_ahead_71 (lv_at hl 12 rfl) ?_
  refine lv_aload C.1 C.2.1 dL_ahead_73 (lv_at hl 13 rfl) ?_
  refine lv_aload C.1 C.2.1 dL_ahead_75 (lv_at hl 14 rfl) ?_
  refine lv_aload C.1 C.2.1 dL_ahead_77 (lv_at hl 15 rfl) ?_
  obtain ⟨r6, hr6, hf⟩ := ob hf
  refine kcv (kS (As := [.ref (wAd w 90), .ref (wAd w 91), .ref (wAd w 93), .ref (wAd w 94), .ref (wAd w 95), .ref (wAd w 96), .ref (wAd w 97), .ref (wAd w 98)]) (rest := []) C hl.1 hP hS (c_L_lay w l C.2.2.2.2.2.2.2.2 hN (L := L) hr6) (gS q390 q391 q0 q392) hd_L_lay ⟨rfl, rfl⟩ ⟨Nat.le_of_ble_eq_true rfl, Nat.le_of_ble_eq_true rfl⟩ rfl rfl (Nat.le_of_ble_eq_true rfl) dL_ahead_79 ⟨Nat.le_of_ble_eq_true rfl, Nat.le_of_ble_eq_true rfl⟩) hS (fun H locs hP hS => ?_)
  refine lv_iload C.1 C.2.1 dL_ahead_82 (lv_at hl 2 rfl) ?_
  refine lv_aload C.1 C.2.1 dL_ahead_84 (lv_at hl 9 rfl) ?_
  refine lv_aload C.1 C.2.1 dL_ahead_86 (lv_at hl 10 rfl) ?_
  refine lv_aload C.1 C.2.1 dL_ahead_88 (lv_at hl 11 rfl) ?_
  refine lv_aload C.1 C.2.1 dL_ahead_90 (lv_at hl 12 rfl) ?_
  refine lv_aload C.1 C.2.1 dL_ahead_92 (lv_at hl 13 rfl) ?_
  refine lv_aload C.1 C.2.1 dL_ahead_94 (lv_at hl 14 rfl) ?_
  refine lv_aload C.1 C.2.1 dL_ahead_96 (lv_at hl 15 rfl) ?_
  obtain ⟨r7, hr7, hf⟩ := ob hf
  refine kcic (kSc (As := [.int r2, .ref (wAd w 92), .ref (wAd w 93), .ref (wAd w 94), .ref (wAd w 95), .ref (wAd w 96), .ref (wAd w 97), .ref (wAd w 98)]) (rest := []) C hl.1 hP hS (c_L_counted w l C.2.2.2.2.2.2.2.2 hN (Or.inl rfl) hT (L := L) hr7) (gS q475 q476 q0 q477) hd_L_counted ⟨rfl, rfl⟩ ⟨Nat.le_of_ble_eq_true rfl, Nat.le_of_ble_eq_true rfl⟩ rfl rfl (Nat.le_of_ble_eq_true rfl) dL_ahead_98 ⟨Nat.le_of_ble_eq_true rfl, Nat.le_of_ble_eq_true rfl⟩) hS (fun H locs hP hS => ?_)
  refine lv_istore (lv' := [(16, .int r7.1), (15, .int r4), (14, .int x3), (13, .int r2), (12, .int r1), (0, .ref (wAd w 0)), (1, .int v1), (2, .int v2), (3, .ref (wAd w 90)), (4, .ref (wAd w 91)), (5, .ref (wAd w 92)), (6, .ref (wAd w 93)), (7, .ref (wAd w 94)), (8, .ref (wAd w 95)), (9, .ref (wAd w 96)), (10, .ref (wAd w 97)), (11, .ref (wAd w 98))]) C.1 C.2.1 dL_ahead_101 hl (by decide) rfl (fun ls hl => ?_)
  refine lv_aload C.1 C.2.1 dL_ahead_103 (lv_at hl 12 rfl) ?_
  refine lv_iload C.1 C.2.1 dL_ahead_105 (lv_at hl 4 rfl) ?_
  refine lv_iload C.1 C.2.1 dL_ahead_107 (lv_at hl 2 rfl) ?_
  obtain ⟨M8, hM8, hf⟩ := ob hf
  refine k_iast C hP hS (C9 C (Nat.le_of_ble_eq_true rfl)) (ar_L94 w L) hM8 dL_ahead_109 (fun H locs hP hS => ?_)
  refine lv_aload_n C.1 C.2.1 dL_ahead_110 rfl (lv_at hl 5 rfl) ?_
  refine lv_iload C.1 C.2.1 dL_ahead_111 (lv_at hl 4 rfl) ?_
  refine lv_iload C.1 C.2.1 dL_ahead_113 (lv_at hl 1 rfl) ?_
  refine lv_iload C.1 C.2.1 dL_ahead_115 (lv_at hl 3 rfl) ?_
  obtain ⟨r9, hr9, hf⟩ := ob hf
  refine kci (kV (As := [.int r1, .int r4, .int r2]) (rest := []) C hl.1 hP hS (c_X8_ifSet w l C.2.2.2.2.2.2.2.2 (L := L) hr9) (gV q512 q513 q514 q1 q515) hd_X8_ifSet (C9 C (lt_NoisePost h0_NoisePost)) (ob_NoisePost h0_NoisePost w L _) rfl ⟨rfl, rfl⟩ ⟨Nat.le_of_ble_eq_true rfl, Nat.le_of_ble_eq_true rfl⟩ rfl rfl (Nat.le_of_ble_eq_true rfl) dL_ahead_117 ⟨Nat.le_of_ble_eq_true rfl, Nat.le_of_ble_eq_true rfl⟩) hS (fun H locs hP hS => ?_)
  refine lv_iload C.1 C.2.1 dL_ahead_120 (lv_at hl 0 rfl) ?_
  refine lv_icmp_eq (tgt := 127) C.1 C.2.1 dL_ahead_122 (by decide) (fun c10 => ?_) (fun c10 => ?_)
  · have hf := (if_pos c10).symm.trans hf
    refine lv_iload_n C.1 C.2.1 dL_ahead_127 rfl (lv_at hl 7 rfl) ?_
    refine lv_iconst (v := 5) C.1 C.2.1 dL_ahead_128 (by decide) ?_
    refine lv_ishr C.1 C.2.1 dL_ahead_129 ?_
    refine lv_iconst (v := 4) C.1 C.2.1 dL_ahead_130 (by decide) ?_
    obtain ⟨r11, hr11, hf⟩ := ob hf
    refine kci (kS (As := [.int (v2 >>> (5 &&& 31)), .int 4]) (rest := []) C hl.1 hP hS (c_L_at w l C.2.2.2.2.2.2.2.2 (L := L) hr11) (gS q384 q385 q0 q386) hd_L_at ⟨rfl, rfl⟩ ⟨Nat.le_of_ble_eq_true rfl, Nat.le_of_ble_eq_true rfl⟩ rfl rfl (Nat.le_of_ble_eq_true rfl) dL_ahead_131 ⟨Nat.le_of_ble_eq_true rfl, Nat.le_of_ble_eq_true rfl⟩) hS (fun H locs hP hS => ?_)
    refine lv_istore (lv' := [(17, .int r11), (16, .int r7.1), (15, .int r4), (14, .int x3), (13, .int r2), (12, .int r1), (0, .ref (wAd w 0)), (1, .int v1), (2, .int v2), (3, .ref (wAd w 90)), (4, .ref (wAd w 91)), (5, .ref (wAd w 92)), (6, .ref (wAd w 93)), (7, .ref (wAd w 94)), (8, .ref (wAd w 95)), (9, .ref (wAd w 96)), (10, .ref (wAd w 97)), (11, .ref (wAd w 98))]) C.1 C.2.1 dL_ahead_134 hl (by decide) rfl (fun ls hl => ?_)
    refine lv_iconst (v := (-1)) C.1 C.2.1 dL_ahead_136 (by decide) ?_
    refine lv_istore (lv' := [(18, .int (-1)), (17, .int r11), (16, .int r7.1), (15, .int r4), (14, .int x3), (13, .int r2), (12, .int r1), (0, .ref (wAd w 0)), (1, .int v1), (2, .int v2), (3, .ref (wAd w 90)), (4, .ref (wAd w 91)), (5, .ref (wAd w 92)), (6, .ref (wAd w 93)), (7, .ref (wAd w 94)), (8, .ref (wAd w 95)), (9, .ref (wAd w 96)), (10, .ref (wAd w 97)), (11, .ref (wAd w 98))]) C.1 C.2.1 dL_ahead_137 hl (by decide) rfl (fun ls hl => ?_)
    refine lv_aload C.1 C.2.1 dL_ahead_139 (lv_at hl 14 rfl) ?_
    refine lv_iconst (v := 0) C.1 C.2.1 dL_ahead_141 (by decide) ?_
    obtain ⟨x12, hx12, hf⟩ := ob hf
    refine k_iald C hP (C9 C (Nat.le_of_ble_eq_true rfl)) (ar_L94 w L _) hx12 dL_ahead_142 ?_
    refine lv_istore (lv' := [(14, .int x12), (18, .int (-1)), (17, .int r11), (16, .int r7.1), (15, .int r4), (13, .int r2), (12, .int r1), (0, .ref (wAd w 0)), (1, .int v1), (2, .int v2), (3, .ref (wAd w 90)), (4, .ref (wAd w 91)), (5, .ref (wAd w 92)), (6, .ref (wAd w 93)), (7, .ref (wAd w 94)), (8, .ref (wAd w 95)), (9, .ref (wAd w 96)), (10, .ref (wAd w 97)), (11, .ref (wAd w 98))]) C.1 C.2.1 dL_ahead_143 hl (by decide) rfl (fun ls hl => ?_)
    refine lv_sipush (v := 140) C.1 C.2.1 dL_ahead_145 (by decide) ?_
    refine lv_istore (lv' := [(19, .int 140), (14, .int x12), (18, .int (-1)), (17, .int r11), (16, .int r7.1), (15, .int r4), (13, .int r2), (12, .int r1), (0, .ref (wAd w 0)), (1, .int v1), (2, .int v2), (3, .ref (wAd w 90)), (4, .ref (wAd w 91)), (5, .ref (wAd w 92)), (6, .ref (wAd w 93)), (7, .ref (wAd w 94)), (8, .ref (wAd w 95)), (9, .ref (wAd w 96)), (10, .ref (wAd w 97)), (11, .ref (wAd w 98))]) C.1 C.2.1 dL_ahead_148 hl (by decide) rfl (fun ls hl => ?_)
    obtain ⟨o18, ho18, hf⟩ := ob hf
    refine loop_at (w_L_ahead_l150 C hN hT) FU _ o18 ho18 ?_ _ _ _ hP hS (lv_sub hl [8, 9, 11, 12, 14, 15, 16, 17, 18, 19, 1, 3, 2, 0] rfl)
    intro H locs ls hP hS hl
    exact w_L_ahead_j206 C hN hT hf _ _ _ hP hS hl
  · have hf := (if_neg c10).symm.trans hf
    refine lv_iconst (v := 0) C.1 C.2.1 dL_ahead_125 (by decide) ?_
    cases hf
    exact krz C hP hS bz0 dL_ahead_126
set_option maxHeartbeats 4000000 in
set_option maxRecDepth 100000 in
theorem c_L_ahead (w : WT) (l : Launch) (hw : WOK w) (hT0 : wN w = 95) {a1 : Int32} {a2 : Int32} {M : Mem} {L : Lng} {out : Int32 × Mem} (hf : f_L_ahead a1 a2 M = some out) : Met l yL_ahead (Cond.code yL_ahead cL_ahead 25 (some .boolean) :: BG) ({ frames := 6, cells := 5, slots := 246, locals := 139 } : Room) (PRE w [.ref (wAd w 0), .int a1, .int a2, .ref (wAd w 90), .ref (wAd w 91), .ref (wAd w 92), .ref (wAd w 93), .ref (wAd w 94)] M L) (QI w out.1 out.2 L) 5 246 (wA w) := by
  refine kEntC hw (by decide +kernel) rfl (Nat.le_of_ble_eq_true rfl) ?_
  intro p e s m args below meth c C ls hl hP
  have hS : va_S (wA w) s.heap s.heap [] := va_S.rf
  have hl : lv_has ls 25 [(0, .ref (wAd w 0)), (1, .int a1), (2, .int a2), (3, .ref (wAd w 90)), (4, .ref (wAd w 91)), (5, .ref (wAd w 92)), (6, .ref (wAd w 93)), (7, .ref (wAd w 94))] := hl
  unfold f_L_ahead at hf
  refine lv_bipush (v := 60) C.1 C.2.1 dL_ahead_0 (by decide) ?_
  refine k_newa (N := 60) (n := 95) C hP hS q71 hT0 (fun row => ar_L95 w L row) (by decide) rfl (Nat.le_of_ble_eq_true rfl) (Nat.le_of_ble_eq_true rfl) (Nat.le_of_ble_eq_true rfl) (Nat.le_of_ble_eq_true rfl) dL_ahead_2 (fun q1 w1 H C X1 e1 n1 hP hS => ?_)
  refine lv_astore (lv' := [(8, .ref q1), (0, .ref (wAd w 0)), (1, .int a1), (2, .int a2), (3, .ref (wAd w 90)), (4, .ref (wAd w 91)), (5, .ref (wAd w 92)), (6, .ref (wAd w 93)), (7, .ref (wAd w 94))]) C.1 C.2.1 dL_ahead_4 hl (by decide) rfl (fun ls hl => ?_)
  refine lv_bipush (v := 60) C.1 C.2.1 dL_ahead_6 (by decide) ?_
  refine k_newa (N := 60) (n := 96) C hP hS q71 n1 (fun row => ar_L96 w1 L row) (by decide) rfl (Nat.le_of_ble_eq_true rfl) (Nat.le_of_ble_eq_true rfl) (Nat.le_of_ble_eq_true rfl) (Nat.le_of_ble_eq_true rfl) dL_ahead_8 (fun q2 w2 H C X2 e2 n2 hP hS => ?_)
  refine lv_astore (lv' := [(9, .ref q2), (8, .ref q1), (0, .ref (wAd w 0)), (1, .int a1), (2, .int a2), (3, .ref (wAd w 90)), (4, .ref (wAd w 91)), (5, .ref (wAd w 92)), (6, .ref (wAd w 93)), (7, .ref (wAd w 94))]) C.1 C.2.1 dL_ahead_10 hl (by decide) rfl (fun ls hl => ?_)
  refine lv_bipush (v := 60) C.1 C.2.1 dL_ahead_12 (by decide) ?_
  refine k_newa (N := 60) (n := 97) C hP hS q71 n2 (fun row => ar_L97 w2 L row) (by decide) rfl (Nat.le_of_ble_eq_true rfl) (Nat.le_of_ble_eq_true rfl) (Nat.le_of_ble_eq_true rfl) (Nat.le_of_ble_eq_true rfl) dL_ahead_14 (fun q3 w3 H C X3 e3 n3 hP hS => ?_)
  refine lv_astore (lv' := [(10, .ref q3), (9, .ref q2), (8, .ref q1), (0, .ref (wAd w 0)), (1, .int a1), (2, .int a2), (3, .ref (wAd w 90)), (4, .ref (wAd w 91)), (5, .ref (wAd w 92)), (6, .ref (wAd w 93)), (7, .ref (wAd w 94))]) C.1 C.2.1 dL_ahead_16 hl (by decide) rfl (fun ls hl => ?_)
  refine lv_bipush (v := 60) C.1 C.2.1 dL_ahead_18 (by decide) ?_
  refine k_newa (N := 60) (n := 98) C hP hS q71 n3 (fun row => ar_L98 w3 L row) (by decide) rfl (Nat.le_of_ble_eq_true rfl) (Nat.le_of_ble_eq_true rfl) (Nat.le_of_ble_eq_true rfl) (Nat.le_of_ble_eq_true rfl) dL_ahead_20 (fun q4 w4 H C X4 e4 n4 hP hS => ?_)
  refine lv_astore (lv' := [(11, .ref q4), (10, .ref q3), (9, .ref q2), (8, .ref q1), (0, .ref (wAd w 0)), (1, .int a1), (2, .int a2), (3, .ref (wAd w 90)), (4, .ref (wAd w 91)), (5, .ref (wAd w 92)), (6, .ref (wAd w 93)), (7, .ref (wAd w 94))]) C.1 C.2.1 dL_ahead_22 hl (by decide) rfl (fun ls hl => ?_)
  have XX : WX w w4 := (WX.trans (WX.trans (WX.trans X1 X2) X3) X4)
  have g4 : wAd w4 98 = q4 := e4
  have g3 : wAd w4 97 = q3 := (X4.2.2.2.2.2.2 97 (by rw [n3]; exact Nat.lt_succ_self _)).trans e3
  have g2 : wAd w4 96 = q2 := ((WX.trans X3 X4).2.2.2.2.2.2 96 (by rw [n2]; exact Nat.lt_succ_self _)).trans e2
  have g1 : wAd w4 95 = q1 := ((WX.trans (WX.trans X2 X3) X4).2.2.2.2.2.2 95 (by rw [n1]; exact Nat.lt_succ_self _)).trans e1
  have k0 : wAd w4 0 = wAd w 0 := XX.2.2.2.2.2.2 0 (C9w hw (Nat.le_of_ble_eq_true rfl))
  have k90 : wAd w4 90 = wAd w 90 := XX.2.2.2.2.2.2 90 (C9w hw (Nat.le_of_ble_eq_true rfl))
  have k91 : wAd w4 91 = wAd w 91 := XX.2.2.2.2.2.2 91 (C9w hw (Nat.le_of_ble_eq_true rfl))
  have k92 : wAd w4 92 = wAd w 92 := XX.2.2.2.2.2.2 92 (C9w hw (Nat.le_of_ble_eq_true rfl))
  have k93 : wAd w4 93 = wAd w 93 := XX.2.2.2.2.2.2 93 (C9w hw (Nat.le_of_ble_eq_true rfl))
  have k94 : wAd w4 94 = wAd w 94 := XX.2.2.2.2.2.2 94 (C9w hw (Nat.le_of_ble_eq_true rfl))
  have hl : lv_has ls 25 [(11, .ref (wAd w4 98)), (10, .ref (wAd w4 97)), (9, .ref (wAd w4 96)), (8, .ref (wAd w4 95)), (0, .ref (wAd w4 0)), (1, .int a1), (2, .int a2), (3, .ref (wAd w4 90)), (4, .ref (wAd w4 91)), (5, .ref (wAd w4 92)), (6, .ref (wAd w4 93)), (7, .ref (wAd w4 94))] := by rw [g4, g3, g2, g1, k0, k90, k91, k92, k93, k94]; exact hl
  refine W_mono (fun t h => MQ_down hw XX (by omega) h) ?_
  exact w_L_ahead_j24 C (by omega) n4 hf _ _ _ hP hS (lv_sub hl [4, 5, 6, 7, 8, 9, 10, 11, 3, 2, 1, 0] rfl)
theorem dL_act_0 : decode cL_act 0 = .ok (.iload_n 2, 1) := by decide +kernel
theorem dL_act_1 : decode cL_act 1 = .ok (.iconst 2, 1) := by decide +kernel
theorem dL_act_2 : decode cL_act 2 = .ok (.ishr, 1) := by decide +kernel
theorem dL_act_3 : decode cL_act 3 = .ok (.iload_n 2, 1) := by decide +kernel
theorem dL_act_4 : decode cL_act 4 = .ok (.iconst 3, 1) := by decide +kernel
theorem dL_act_5 : decode cL_act 5 = .ok (.invokestatic 59, 3) := by decide +kernel
theorem dL_act_8 : decode cL_act 8 = .ok (.ifCond .ne 9, 3) := by decide +kernel
theorem dL_act_11 : decode cL_act 11 = .ok (.sipush 141, 3) := by decide +kernel
theorem dL_act_14 : decode cL_act 14 = .ok (.goto 5, 3) := by decide +kernel
theorem dL_act_17 : decode cL_act 17 = .ok (.bipush 60, 2) := by decide +kernel
theorem dL_act_19 : decode cL_act 19 = .ok (.invokestatic 59, 3) := by decide +kernel
theorem dL_act_22 : decode cL_act 22 = .ok (.iload_n 2, 1) := by decide +kernel
theorem dL_act_23 : decode cL_act 23 = .ok (.iconst 3, 1) := by decide +kernel
theorem dL_act_24 : decode cL_act 24 = .ok (.invokestatic 59, 3) := by decide +kernel
theorem dL_act_27 : decode cL_act 27 = .ok (.iconst 1, 1) := by decide +kernel
theorem dL_act_28 : decode cL_act 28 = .ok (.if_icmp .ne 8, 3) := by decide +kernel
theorem dL_act_31 : decode cL_act 31 = .ok (.bipush 50, 2) := by decide +kernel
theorem dL_act_33 : decode cL_act 33 = .ok (.goto 4, 3) := by decide +kernel
theorem dL_act_36 : decode cL_act 36 = .ok (.iconst 0, 1) := by decide +kernel
theorem dL_act_37 : decode cL_act 37 = .ok (.iadd, 1) := by decide +kernel
theorem dL_act_38 : decode cL_act 38 = .ok (.istore 9, 2) := by decide +kernel
theorem dL_act_40 : decode cL_act 40 = .ok (.iload 9, 2) := by decide +kernel
theorem dL_act_42 : decode cL_act 42 = .ok (.sipush 140, 3) := by decide +kernel
theorem dL_act_45 : decode cL_act 45 = .ok (.if_icmp .le 8, 3) := by decide +kernel
theorem dL_act_48 : decode cL_act 48 = .ok (.sipush 140, 3) := by decide +kernel
theorem dL_act_51 : decode cL_act 51 = .ok (.istore 9, 2) := by decide +kernel
theorem dL_act_53 : decode cL_act 53 = .ok (.iload_n 3, 1) := by decide +kernel
theorem dL_act_54 : decode cL_act 54 = .ok (.iconst 4, 1) := by decide +kernel
theorem dL_act_55 : decode cL_act 55 = .ok (.invokestatic 59, 3) := by decide +kernel
theorem dL_act_58 : decode cL_act 58 = .ok (.ifCond .ne 14, 3) := by decide +kernel
theorem dL_act_61 : decode cL_act 61 = .ok (.iload_n 3, 1) := by decide +kernel
theorem dL_act_62 : decode cL_act 62 = .ok (.iconst 2, 1) := by decide +kernel
theorem dL_act_63 : decode cL_act 63 = .ok (.ishr, 1) := by decide +kernel
theorem dL_act_64 : decode cL_act 64 = .ok (.bipush 41, 2) := by decide +kernel
theorem dL_act_66 : decode cL_act 66 = .ok (.invokestatic 59, 3) := by decide +kernel
theorem dL_act_69 : decode cL_act 69 = .ok (.goto 11, 3) := by decide +kernel
theorem dL_act_72 : decode cL_act 72 = .ok (.iload_n 3, 1) := by decide +kernel
theorem dL_act_73 : decode cL_act 73 = .ok (.iconst 2, 1) := by decide +kernel
theorem dL_act_74 : decode cL_act 74 = .ok (.ishr, 1) := by decide +kernel
theorem dL_act_75 : decode cL_act 75 = .ok (.bipush 12, 2) := by decide +kernel
theorem dL_act_77 : decode cL_act 77 = .ok (.invokestatic 59, 3) := by decide +kernel
theorem dL_act_80 : decode cL_act 80 = .ok (.istore 10, 2) := by decide +kernel
theorem dL_act_82 : decode cL_act 82 = .ok (.iload_n 1, 1) := by decide +kernel
theorem dL_act_83 : decode cL_act 83 = .ok (.bipush 6, 2) := by decide +kernel
theorem dL_act_85 : decode cL_act 85 = .ok (.if_icmp .lt 10, 3) := by decide +kernel
theorem dL_act_88 : decode cL_act 88 = .ok (.aload 7, 2) := by decide +kernel
theorem dL_act_90 : decode cL_act 90 = .ok (.iconst 0, 1) := by decide +kernel
theorem dL_act_91 : decode cL_act 91 = .ok (.iaload, 1) := by decide +kernel
theorem dL_act_92 : decode cL_act 92 = .ok (.ifCond .ne 95, 3) := by decide +kernel
theorem dL_act_95 : decode cL_act 95 = .ok (.iconst 1, 1) := by decide +kernel
theorem dL_act_96 : decode cL_act 96 = .ok (.iload_n 3, 1) := by decide +kernel
theorem dL_act_97 : decode cL_act 97 = .ok (.bipush 6, 2) := by decide +kernel
theorem dL_act_99 : decode cL_act 99 = .ok (.ishr, 1) := by decide +kernel
theorem dL_act_100 : decode cL_act 100 = .ok (.bipush 12, 2) := by decide +kernel
theorem dL_act_102 : decode cL_act 102 = .ok (.invokestatic 59, 3) := by decide +kernel
theorem dL_act_105 : decode cL_act 105 = .ok (.iadd, 1) := by decide +kernel
theorem dL_act_106 : decode cL_act 106 = .ok (.istore 11, 2) := by decide +kernel
theorem dL_act_108 : decode cL_act 108 = .ok (.aload 7, 2) := by decide +kernel
theorem dL_act_110 : decode cL_act 110 = .ok (.iconst 0, 1) := by decide +kernel
theorem dL_act_111 : decode cL_act 111 = .ok (.iaload, 1) := by decide +kernel
theorem dL_act_112 : decode cL_act 112 = .ok (.iload 11, 2) := by decide +kernel
theorem dL_act_114 : decode cL_act 114 = .ok (.iadd, 1) := by decide +kernel
theorem dL_act_115 : decode cL_act 115 = .ok (.bipush 60, 2) := by decide +kernel
theorem dL_act_117 : decode cL_act 117 = .ok (.if_icmp .le 5, 3) := by decide +kernel
theorem dL_act_120 : decode cL_act 120 = .ok (.iconst 1, 1) := by decide +kernel
theorem dL_act_121 : decode cL_act 121 = .ok (.ireturn, 1) := by decide +kernel
theorem dL_act_122 : decode cL_act 122 = .ok (.iconst 0, 1) := by decide +kernel
theorem dL_act_123 : decode cL_act 123 = .ok (.istore 12, 2) := by decide +kernel
theorem dL_act_125 : decode cL_act 125 = .ok (.iload 12, 2) := by decide +kernel
theorem dL_act_127 : decode cL_act 127 = .ok (.iload 11, 2) := by decide +kernel
theorem dL_act_129 : decode cL_act 129 = .ok (.if_icmp .ge 35, 3) := by decide +kernel
theorem dL_act_132 : decode cL_act 132 = .ok (.aload 4, 2) := by decide +kernel
theorem dL_act_134 : decode cL_act 134 = .ok (.aload 7, 2) := by decide +kernel
theorem dL_act_136 : decode cL_act 136 = .ok (.iconst 0, 1) := by decide +kernel
theorem dL_act_137 : decode cL_act 137 = .ok (.iaload, 1) := by decide +kernel
theorem dL_act_138 : decode cL_act 138 = .ok (.iload 9, 2) := by decide +kernel
theorem dL_act_140 : decode cL_act 140 = .ok (.iastore, 1) := by decide +kernel
theorem dL_act_141 : decode cL_act 141 = .ok (.aload 5, 2) := by decide +kernel
theorem dL_act_143 : decode cL_act 143 = .ok (.aload 7, 2) := by decide +kernel
theorem dL_act_145 : decode cL_act 145 = .ok (.iconst 0, 1) := by decide +kernel
theorem dL_act_146 : decode cL_act 146 = .ok (.iaload, 1) := by decide +kernel
theorem dL_act_147 : decode cL_act 147 = .ok (.iload 10, 2) := by decide +kernel
theorem dL_act_149 : decode cL_act 149 = .ok (.iastore, 1) := by decide +kernel
theorem dL_act_150 : decode cL_act 150 = .ok (.aload 7, 2) := by decide +kernel
theorem dL_act_152 : decode cL_act 152 = .ok (.iconst 0, 1) := by decide +kernel
theorem dL_act_153 : decode cL_act 153 = .ok (.dup2, 1) := by decide +kernel
theorem dL_act_154 : decode cL_act 154 = .ok (.iaload, 1) := by decide +kernel
theorem dL_act_155 : decode cL_act 155 = .ok (.iconst 1, 1) := by decide +kernel
theorem dL_act_156 : decode cL_act 156 = .ok (.iadd, 1) := by decide +kernel
theorem dL_act_157 : decode cL_act 157 = .ok (.iastore, 1) := by decide +kernel
theorem dL_act_158 : decode cL_act 158 = .ok (.iinc 12 1, 3) := by decide +kernel
theorem dL_act_161 : decode cL_act 161 = .ok (.goto (-36), 3) := by decide +kernel
theorem dL_act_164 : decode cL_act 164 = .ok (.aload_n 0, 1) := by decide +kernel
theorem dL_act_165 : decode cL_act 165 = .ok (.iload 9, 2) := by decide +kernel
theorem dL_act_167 : decode cL_act 167 = .ok (.iload 10, 2) := by decide +kernel
theorem dL_act_169 : decode cL_act 169 = .ok (.iload 11, 2) := by decide +kernel
theorem dL_act_171 : decode cL_act 171 = .ok (.invokevirtual 85, 3) := by decide +kernel
theorem dL_act_174 : decode cL_act 174 = .ok (.aload 7, 2) := by decide +kernel
theorem dL_act_176 : decode cL_act 176 = .ok (.iconst 0, 1) := by decide +kernel
theorem dL_act_177 : decode cL_act 177 = .ok (.iaload, 1) := by decide +kernel
theorem dL_act_178 : decode cL_act 178 = .ok (.if_icmp .ne 7, 3) := by decide +kernel
theorem dL_act_181 : decode cL_act 181 = .ok (.iconst 1, 1) := by decide +kernel
theorem dL_act_182 : decode cL_act 182 = .ok (.goto 4, 3) := by decide +kernel
theorem dL_act_185 : decode cL_act 185 = .ok (.iconst 0, 1) := by decide +kernel
theorem dL_act_186 : decode cL_act 186 = .ok (.ireturn, 1) := by decide +kernel
theorem dL_act_187 : decode cL_act 187 = .ok (.iload_n 1, 1) := by decide +kernel
theorem dL_act_188 : decode cL_act 188 = .ok (.bipush 8, 2) := by decide +kernel
theorem dL_act_190 : decode cL_act 190 = .ok (.if_icmp .ge 58, 3) := by decide +kernel
theorem dL_act_193 : decode cL_act 193 = .ok (.iload_n 2, 1) := by decide +kernel
theorem dL_act_194 : decode cL_act 194 = .ok (.bipush 9, 2) := by decide +kernel
theorem dL_act_196 : decode cL_act 196 = .ok (.ishr, 1) := by decide +kernel
theorem dL_act_197 : decode cL_act 197 = .ok (.aload 7, 2) := by decide +kernel
theorem dL_act_199 : decode cL_act 199 = .ok (.iconst 0, 1) := by decide +kernel
theorem dL_act_200 : decode cL_act 200 = .ok (.iaload, 1) := by decide +kernel
theorem dL_act_201 : decode cL_act 201 = .ok (.invokestatic 59, 3) := by decide +kernel
theorem dL_act_204 : decode cL_act 204 = .ok (.istore 11, 2) := by decide +kernel
theorem dL_act_206 : decode cL_act 206 = .ok (.aload 4, 2) := by decide +kernel
theorem dL_act_208 : decode cL_act 208 = .ok (.iload 11, 2) := by decide +kernel
theorem dL_act_210 : decode cL_act 210 = .ok (.iload 9, 2) := by decide +kernel
theorem dL_act_212 : decode cL_act 212 = .ok (.iastore, 1) := by decide +kernel
theorem dL_act_213 : decode cL_act 213 = .ok (.aload 5, 2) := by decide +kernel
theorem dL_act_215 : decode cL_act 215 = .ok (.iload 11, 2) := by decide +kernel
theorem dL_act_217 : decode cL_act 217 = .ok (.iload 10, 2) := by decide +kernel
theorem dL_act_219 : decode cL_act 219 = .ok (.iastore, 1) := by decide +kernel
theorem dL_act_220 : decode cL_act 220 = .ok (.aload_n 0, 1) := by decide +kernel
theorem dL_act_221 : decode cL_act 221 = .ok (.iload 11, 2) := by decide +kernel
theorem dL_act_223 : decode cL_act 223 = .ok (.iload 9, 2) := by decide +kernel
theorem dL_act_225 : decode cL_act 225 = .ok (.iload 10, 2) := by decide +kernel
theorem dL_act_227 : decode cL_act 227 = .ok (.invokevirtual 88, 3) := by decide +kernel
theorem dL_act_230 : decode cL_act 230 = .ok (.istore 12, 2) := by decide +kernel
theorem dL_act_232 : decode cL_act 232 = .ok (.iload 12, 2) := by decide +kernel
theorem dL_act_234 : decode cL_act 234 = .ok (.aload_n 0, 1) := by decide +kernel
theorem dL_act_235 : decode cL_act 235 = .ok (.iconst 5, 1) := by decide +kernel
theorem dL_act_236 : decode cL_act 236 = .ok (.invokevirtual 52, 3) := by decide +kernel
theorem dL_act_239 : decode cL_act 239 = .ok (.if_icmp .ne 7, 3) := by decide +kernel
theorem dL_act_242 : decode cL_act 242 = .ok (.iconst 1, 1) := by decide +kernel
theorem dL_act_243 : decode cL_act 243 = .ok (.goto 4, 3) := by decide +kernel
theorem dL_act_246 : decode cL_act 246 = .ok (.iconst 0, 1) := by decide +kernel
theorem dL_act_247 : decode cL_act 247 = .ok (.ireturn, 1) := by decide +kernel
theorem dL_act_248 : decode cL_act 248 = .ok (.iload_n 1, 1) := by decide +kernel
theorem dL_act_249 : decode cL_act 249 = .ok (.bipush 8, 2) := by decide +kernel
theorem dL_act_251 : decode cL_act 251 = .ok (.if_icmp .ne 146, 3) := by decide +kernel
theorem dL_act_254 : decode cL_act 254 = .ok (.iconst 1, 1) := by decide +kernel
theorem dL_act_255 : decode cL_act 255 = .ok (.iload_n 3, 1) := by decide +kernel
theorem dL_act_256 : decode cL_act 256 = .ok (.aload 7, 2) := by decide +kernel
theorem dL_act_258 : decode cL_act 258 = .ok (.iconst 0, 1) := by decide +kernel
theorem dL_act_259 : decode cL_act 259 = .ok (.iaload, 1) := by decide +kernel
theorem dL_act_260 : decode cL_act 260 = .ok (.bipush 9, 2) := by decide +kernel
theorem dL_act_262 : decode cL_act 262 = .ok (.if_icmp .ge 10, 3) := by decide +kernel
theorem dL_act_265 : decode cL_act 265 = .ok (.aload 7, 2) := by decide +kernel
theorem dL_act_267 : decode cL_act 267 = .ok (.iconst 0, 1) := by decide +kernel
theorem dL_act_268 : decode cL_act 268 = .ok (.iaload, 1) := by decide +kernel
theorem dL_act_269 : decode cL_act 269 = .ok (.goto 5, 3) := by decide +kernel
theorem dL_act_272 : decode cL_act 272 = .ok (.bipush 9, 2) := by decide +kernel
theorem dL_act_274 : decode cL_act 274 = .ok (.invokestatic 59, 3) := by decide +kernel
theorem dL_act_277 : decode cL_act 277 = .ok (.iadd, 1) := by decide +kernel
theorem dL_act_278 : decode cL_act 278 = .ok (.istore 11, 2) := by decide +kernel
theorem dL_act_280 : decode cL_act 280 = .ok (.aload 7, 2) := by decide +kernel
theorem dL_act_282 : decode cL_act 282 = .ok (.iconst 0, 1) := by decide +kernel
theorem dL_act_283 : decode cL_act 283 = .ok (.dup2, 1) := by decide +kernel
theorem dL_act_284 : decode cL_act 284 = .ok (.iaload, 1) := by decide +kernel
theorem dL_act_285 : decode cL_act 285 = .ok (.iload 11, 2) := by decide +kernel
theorem dL_act_287 : decode cL_act 287 = .ok (.isub, 1) := by decide +kernel
theorem dL_act_288 : decode cL_act 288 = .ok (.iastore, 1) := by decide +kernel
theorem dL_act_289 : decode cL_act 289 = .ok (.iconst 0, 1) := by decide +kernel
theorem dL_act_290 : decode cL_act 290 = .ok (.istore 12, 2) := by decide +kernel
theorem dL_act_292 : decode cL_act 292 = .ok (.iload 12, 2) := by decide +kernel
theorem dL_act_294 : decode cL_act 294 = .ok (.aload 7, 2) := by decide +kernel
theorem dL_act_296 : decode cL_act 296 = .ok (.iconst 0, 1) := by decide +kernel
theorem dL_act_297 : decode cL_act 297 = .ok (.iaload, 1) := by decide +kernel
theorem dL_act_298 : decode cL_act 298 = .ok (.if_icmp .ge 35, 3) := by decide +kernel
theorem dL_act_301 : decode cL_act 301 = .ok (.aload 4, 2) := by decide +kernel
theorem dL_act_303 : decode cL_act 303 = .ok (.iload 12, 2) := by decide +kernel
theorem dL_act_305 : decode cL_act 305 = .ok (.aload 4, 2) := by decide +kernel
theorem dL_act_307 : decode cL_act 307 = .ok (.iload 12, 2) := by decide +kernel
theorem dL_act_309 : decode cL_act 309 = .ok (.iload 11, 2) := by decide +kernel
theorem dL_act_311 : decode cL_act 311 = .ok (.iadd, 1) := by decide +kernel
theorem dL_act_312 : decode cL_act 312 = .ok (.iaload, 1) := by decide +kernel
theorem dL_act_313 : decode cL_act 313 = .ok (.iastore, 1) := by decide +kernel
theorem dL_act_314 : decode cL_act 314 = .ok (.aload 5, 2) := by decide +kernel
theorem dL_act_316 : decode cL_act 316 = .ok (.iload 12, 2) := by decide +kernel
theorem dL_act_318 : decode cL_act 318 = .ok (.aload 5, 2) := by decide +kernel
theorem dL_act_320 : decode cL_act 320 = .ok (.iload 12, 2) := by decide +kernel
theorem dL_act_322 : decode cL_act 322 = .ok (.iload 11, 2) := by decide +kernel
theorem dL_act_324 : decode cL_act 324 = .ok (.iadd, 1) := by decide +kernel
theorem dL_act_325 : decode cL_act 325 = .ok (.iaload, 1) := by decide +kernel
theorem dL_act_326 : decode cL_act 326 = .ok (.iastore, 1) := by decide +kernel
theorem dL_act_327 : decode cL_act 327 = .ok (.iinc 12 1, 3) := by decide +kernel
theorem dL_act_330 : decode cL_act 330 = .ok (.goto (-38), 3) := by decide +kernel
theorem dL_act_333 : decode cL_act 333 = .ok (.iconst 0, 1) := by decide +kernel
theorem dL_act_334 : decode cL_act 334 = .ok (.istore 12, 2) := by decide +kernel
theorem dL_act_336 : decode cL_act 336 = .ok (.iload 12, 2) := by decide +kernel
theorem dL_act_338 : decode cL_act 338 = .ok (.aload 7, 2) := by decide +kernel
theorem dL_act_340 : decode cL_act 340 = .ok (.iconst 1, 1) := by decide +kernel
theorem dL_act_341 : decode cL_act 341 = .ok (.iaload, 1) := by decide +kernel
theorem dL_act_342 : decode cL_act 342 = .ok (.if_icmp .ge 36, 3) := by decide +kernel
theorem dL_act_345 : decode cL_act 345 = .ok (.aload 6, 2) := by decide +kernel
theorem dL_act_347 : decode cL_act 347 = .ok (.iload 12, 2) := by decide +kernel
theorem dL_act_349 : decode cL_act 349 = .ok (.aload 6, 2) := by decide +kernel
theorem dL_act_351 : decode cL_act 351 = .ok (.iload 12, 2) := by decide +kernel
theorem dL_act_353 : decode cL_act 353 = .ok (.iaload, 1) := by decide +kernel
theorem dL_act_354 : decode cL_act 354 = .ok (.iload 11, 2) := by decide +kernel
theorem dL_act_356 : decode cL_act 356 = .ok (.if_icmp .le 14, 3) := by decide +kernel
theorem dL_act_359 : decode cL_act 359 = .ok (.aload 6, 2) := by decide +kernel
theorem dL_act_361 : decode cL_act 361 = .ok (.iload 12, 2) := by decide +kernel
theorem dL_act_363 : decode cL_act 363 = .ok (.iaload, 1) := by decide +kernel
theorem dL_act_364 : decode cL_act 364 = .ok (.iload 11, 2) := by decide +kernel
theorem dL_act_366 : decode cL_act 366 = .ok (.isub, 1) := by decide +kernel
theorem dL_act_367 : decode cL_act 367 = .ok (.goto 4, 3) := by decide +kernel
theorem dL_act_370 : decode cL_act 370 = .ok (.iconst 0, 1) := by decide +kernel
theorem dL_act_371 : decode cL_act 371 = .ok (.iastore, 1) := by decide +kernel
theorem dL_act_372 : decode cL_act 372 = .ok (.iinc 12 1, 3) := by decide +kernel
theorem dL_act_375 : decode cL_act 375 = .ok (.goto (-39), 3) := by decide +kernel
theorem dL_act_378 : decode cL_act 378 = .ok (.aload_n 0, 1) := by decide +kernel
theorem dL_act_379 : decode cL_act 379 = .ok (.iload 11, 2) := by decide +kernel
theorem dL_act_381 : decode cL_act 381 = .ok (.invokevirtual 91, 3) := by decide +kernel
theorem dL_act_384 : decode cL_act 384 = .ok (.aload 7, 2) := by decide +kernel
theorem dL_act_386 : decode cL_act 386 = .ok (.iconst 0, 1) := by decide +kernel
theorem dL_act_387 : decode cL_act 387 = .ok (.iaload, 1) := by decide +kernel
theorem dL_act_388 : decode cL_act 388 = .ok (.if_icmp .ne 7, 3) := by decide +kernel
theorem dL_act_391 : decode cL_act 391 = .ok (.iconst 1, 1) := by decide +kernel
theorem dL_act_392 : decode cL_act 392 = .ok (.goto 4, 3) := by decide +kernel
theorem dL_act_395 : decode cL_act 395 = .ok (.iconst 0, 1) := by decide +kernel
theorem dL_act_396 : decode cL_act 396 = .ok (.ireturn, 1) := by decide +kernel
theorem dL_act_397 : decode cL_act 397 = .ok (.iload_n 1, 1) := by decide +kernel
theorem dL_act_398 : decode cL_act 398 = .ok (.bipush 11, 2) := by decide +kernel
theorem dL_act_400 : decode cL_act 400 = .ok (.if_icmp .ge 77, 3) := by decide +kernel
theorem dL_act_403 : decode cL_act 403 = .ok (.aload 7, 2) := by decide +kernel
theorem dL_act_405 : decode cL_act 405 = .ok (.iconst 1, 1) := by decide +kernel
theorem dL_act_406 : decode cL_act 406 = .ok (.iaload, 1) := by decide +kernel
theorem dL_act_407 : decode cL_act 407 = .ok (.bipush 6, 2) := by decide +kernel
theorem dL_act_409 : decode cL_act 409 = .ok (.if_icmp .ne 5, 3) := by decide +kernel
theorem dL_act_412 : decode cL_act 412 = .ok (.iconst 1, 1) := by decide +kernel
theorem dL_act_413 : decode cL_act 413 = .ok (.ireturn, 1) := by decide +kernel
theorem dL_act_414 : decode cL_act 414 = .ok (.aload 6, 2) := by decide +kernel
theorem dL_act_416 : decode cL_act 416 = .ok (.aload 7, 2) := by decide +kernel
theorem dL_act_418 : decode cL_act 418 = .ok (.iconst 1, 1) := by decide +kernel
theorem dL_act_419 : decode cL_act 419 = .ok (.iaload, 1) := by decide +kernel
theorem dL_act_420 : decode cL_act 420 = .ok (.iload_n 3, 1) := by decide +kernel
theorem dL_act_421 : decode cL_act 421 = .ok (.iload_n 2, 1) := by decide +kernel
theorem dL_act_422 : decode cL_act 422 = .ok (.iconst 3, 1) := by decide +kernel
theorem dL_act_423 : decode cL_act 423 = .ok (.invokestatic 59, 3) := by decide +kernel
theorem dL_act_426 : decode cL_act 426 = .ok (.ifCond .ne 9, 3) := by decide +kernel
theorem dL_act_429 : decode cL_act 429 = .ok (.sipush 301, 3) := by decide +kernel
theorem dL_act_432 : decode cL_act 432 = .ok (.goto 5, 3) := by decide +kernel
theorem dL_act_435 : decode cL_act 435 = .ok (.bipush 60, 2) := by decide +kernel
theorem dL_act_437 : decode cL_act 437 = .ok (.invokestatic 59, 3) := by decide +kernel
theorem dL_act_440 : decode cL_act 440 = .ok (.iastore, 1) := by decide +kernel
theorem dL_act_441 : decode cL_act 441 = .ok (.aload 7, 2) := by decide +kernel
theorem dL_act_443 : decode cL_act 443 = .ok (.iconst 1, 1) := by decide +kernel
theorem dL_act_444 : decode cL_act 444 = .ok (.dup2, 1) := by decide +kernel
theorem dL_act_445 : decode cL_act 445 = .ok (.iaload, 1) := by decide +kernel
theorem dL_act_446 : decode cL_act 446 = .ok (.iconst 1, 1) := by decide +kernel
theorem dL_act_447 : decode cL_act 447 = .ok (.iadd, 1) := by decide +kernel
theorem dL_act_448 : decode cL_act 448 = .ok (.iastore, 1) := by decide +kernel
theorem dL_act_449 : decode cL_act 449 = .ok (.aload_n 0, 1) := by decide +kernel
theorem dL_act_450 : decode cL_act 450 = .ok (.aload 6, 2) := by decide +kernel
theorem dL_act_452 : decode cL_act 452 = .ok (.aload 7, 2) := by decide +kernel
theorem dL_act_454 : decode cL_act 454 = .ok (.iconst 1, 1) := by decide +kernel
theorem dL_act_455 : decode cL_act 455 = .ok (.iaload, 1) := by decide +kernel
theorem dL_act_456 : decode cL_act 456 = .ok (.iconst 1, 1) := by decide +kernel
theorem dL_act_457 : decode cL_act 457 = .ok (.isub, 1) := by decide +kernel
theorem dL_act_458 : decode cL_act 458 = .ok (.iaload, 1) := by decide +kernel
theorem dL_act_459 : decode cL_act 459 = .ok (.invokevirtual 94, 3) := by decide +kernel
theorem dL_act_462 : decode cL_act 462 = .ok (.aload 7, 2) := by decide +kernel
theorem dL_act_464 : decode cL_act 464 = .ok (.iconst 1, 1) := by decide +kernel
theorem dL_act_465 : decode cL_act 465 = .ok (.iaload, 1) := by decide +kernel
theorem dL_act_466 : decode cL_act 466 = .ok (.iconst 1, 1) := by decide +kernel
theorem dL_act_467 : decode cL_act 467 = .ok (.isub, 1) := by decide +kernel
theorem dL_act_468 : decode cL_act 468 = .ok (.if_icmp .ne 7, 3) := by decide +kernel
theorem dL_act_471 : decode cL_act 471 = .ok (.iconst 1, 1) := by decide +kernel
theorem dL_act_472 : decode cL_act 472 = .ok (.goto 4, 3) := by decide +kernel
theorem dL_act_475 : decode cL_act 475 = .ok (.iconst 0, 1) := by decide +kernel
theorem dL_act_476 : decode cL_act 476 = .ok (.ireturn, 1) := by decide +kernel
theorem dL_act_477 : decode cL_act 477 = .ok (.iload_n 1, 1) := by decide +kernel
theorem dL_act_478 : decode cL_act 478 = .ok (.bipush 11, 2) := by decide +kernel
theorem dL_act_480 : decode cL_act 480 = .ok (.if_icmp .ne 87, 3) := by decide +kernel
theorem dL_act_483 : decode cL_act 483 = .ok (.aload 7, 2) := by decide +kernel
theorem dL_act_485 : decode cL_act 485 = .ok (.iconst 1, 1) := by decide +kernel
theorem dL_act_486 : decode cL_act 486 = .ok (.iaload, 1) := by decide +kernel
theorem dL_act_487 : decode cL_act 487 = .ok (.ifCond .ne 5, 3) := by decide +kernel
theorem dL_act_490 : decode cL_act 490 = .ok (.iconst 1, 1) := by decide +kernel
theorem dL_act_491 : decode cL_act 491 = .ok (.ireturn, 1) := by decide +kernel
theorem dL_act_492 : decode cL_act 492 = .ok (.iload_n 2, 1) := by decide +kernel
theorem dL_act_493 : decode cL_act 493 = .ok (.aload 7, 2) := by decide +kernel
theorem dL_act_495 : decode cL_act 495 = .ok (.iconst 1, 1) := by decide +kernel
theorem dL_act_496 : decode cL_act 496 = .ok (.iaload, 1) := by decide +kernel
theorem dL_act_497 : decode cL_act 497 = .ok (.invokestatic 59, 3) := by decide +kernel
theorem dL_act_500 : decode cL_act 500 = .ok (.istore 11, 2) := by decide +kernel
theorem dL_act_502 : decode cL_act 502 = .ok (.aload_n 0, 1) := by decide +kernel
theorem dL_act_503 : decode cL_act 503 = .ok (.iload 11, 2) := by decide +kernel
theorem dL_act_505 : decode cL_act 505 = .ok (.iconst 1, 1) := by decide +kernel
theorem dL_act_506 : decode cL_act 506 = .ok (.invokevirtual 45, 3) := by decide +kernel
theorem dL_act_509 : decode cL_act 509 = .ok (.istore 12, 2) := by decide +kernel
theorem dL_act_511 : decode cL_act 511 = .ok (.aload 7, 2) := by decide +kernel
theorem dL_act_513 : decode cL_act 513 = .ok (.iconst 1, 1) := by decide +kernel
theorem dL_act_514 : decode cL_act 514 = .ok (.dup2, 1) := by decide +kernel
theorem dL_act_515 : decode cL_act 515 = .ok (.iaload, 1) := by decide +kernel
theorem dL_act_516 : decode cL_act 516 = .ok (.iconst 1, 1) := by decide +kernel
theorem dL_act_517 : decode cL_act 517 = .ok (.isub, 1) := by decide +kernel
theorem dL_act_518 : decode cL_act 518 = .ok (.iastore, 1) := by decide +kernel
theorem dL_act_519 : decode cL_act 519 = .ok (.iload 11, 2) := by decide +kernel
theorem dL_act_521 : decode cL_act 521 = .ok (.istore 13, 2) := by decide +kernel
theorem dL_act_523 : decode cL_act 523 = .ok (.iload 13, 2) := by decide +kernel
theorem dL_act_525 : decode cL_act 525 = .ok (.aload 7, 2) := by decide +kernel
theorem dL_act_527 : decode cL_act 527 = .ok (.iconst 1, 1) := by decide +kernel
theorem dL_act_528 : decode cL_act 528 = .ok (.iaload, 1) := by decide +kernel
theorem dL_act_529 : decode cL_act 529 = .ok (.if_icmp .ge 21, 3) := by decide +kernel
theorem dL_act_532 : decode cL_act 532 = .ok (.aload 6, 2) := by decide +kernel
theorem dL_act_534 : decode cL_act 534 = .ok (.iload 13, 2) := by decide +kernel
theorem dL_act_536 : decode cL_act 536 = .ok (.aload 6, 2) := by decide +kernel
theorem dL_act_538 : decode cL_act 538 = .ok (.iload 13, 2) := by decide +kernel
theorem dL_act_540 : decode cL_act 540 = .ok (.iconst 1, 1) := by decide +kernel
theorem dL_act_541 : decode cL_act 541 = .ok (.iadd, 1) := by decide +kernel
theorem dL_act_542 : decode cL_act 542 = .ok (.iaload, 1) := by decide +kernel
theorem dL_act_543 : decode cL_act 543 = .ok (.iastore, 1) := by decide +kernel
theorem dL_act_544 : decode cL_act 544 = .ok (.iinc 13 1, 3) := by decide +kernel
theorem dL_act_547 : decode cL_act 547 = .ok (.goto (-24), 3) := by decide +kernel
theorem dL_act_550 : decode cL_act 550 = .ok (.aload_n 0, 1) := by decide +kernel
theorem dL_act_551 : decode cL_act 551 = .ok (.iload 11, 2) := by decide +kernel
theorem dL_act_553 : decode cL_act 553 = .ok (.invokevirtual 97, 3) := by decide +kernel
theorem dL_act_556 : decode cL_act 556 = .ok (.iload 12, 2) := by decide +kernel
theorem dL_act_558 : decode cL_act 558 = .ok (.if_icmp .ne 7, 3) := by decide +kernel
theorem dL_act_561 : decode cL_act 561 = .ok (.iconst 1, 1) := by decide +kernel
theorem dL_act_562 : decode cL_act 562 = .ok (.goto 4, 3) := by decide +kernel
theorem dL_act_565 : decode cL_act 565 = .ok (.iconst 0, 1) := by decide +kernel
theorem dL_act_566 : decode cL_act 566 = .ok (.ireturn, 1) := by decide +kernel
theorem dL_act_567 : decode cL_act 567 = .ok (.iload_n 2, 1) := by decide +kernel
theorem dL_act_568 : decode cL_act 568 = .ok (.bipush 10, 2) := by decide +kernel
theorem dL_act_570 : decode cL_act 570 = .ok (.invokestatic 59, 3) := by decide +kernel
theorem dL_act_573 : decode cL_act 573 = .ok (.istore 11, 2) := by decide +kernel
theorem dL_act_575 : decode cL_act 575 = .ok (.aload 8, 2) := by decide +kernel
theorem dL_act_577 : decode cL_act 577 = .ok (.iload 11, 2) := by decide +kernel
theorem dL_act_579 : decode cL_act 579 = .ok (.iaload, 1) := by decide +kernel
theorem dL_act_580 : decode cL_act 580 = .ok (.istore 12, 2) := by decide +kernel
theorem dL_act_582 : decode cL_act 582 = .ok (.aload 8, 2) := by decide +kernel
theorem dL_act_584 : decode cL_act 584 = .ok (.iload 11, 2) := by decide +kernel
theorem dL_act_586 : decode cL_act 586 = .ok (.iload 11, 2) := by decide +kernel
theorem dL_act_588 : decode cL_act 588 = .ok (.iload_n 3, 1) := by decide +kernel
theorem dL_act_589 : decode cL_act 589 = .ok (.invokestatic 72, 3) := by decide +kernel
theorem dL_act_592 : decode cL_act 592 = .ok (.iastore, 1) := by decide +kernel
theorem dL_act_593 : decode cL_act 593 = .ok (.aload_n 0, 1) := by decide +kernel
theorem dL_act_594 : decode cL_act 594 = .ok (.iload 11, 2) := by decide +kernel
theorem dL_act_596 : decode cL_act 596 = .ok (.aload 8, 2) := by decide +kernel
theorem dL_act_598 : decode cL_act 598 = .ok (.iload 11, 2) := by decide +kernel
theorem dL_act_600 : decode cL_act 600 = .ok (.iaload, 1) := by decide +kernel
theorem dL_act_601 : decode cL_act 601 = .ok (.invokevirtual 100, 3) := by decide +kernel
theorem dL_act_604 : decode cL_act 604 = .ok (.iload 12, 2) := by decide +kernel
theorem dL_act_606 : decode cL_act 606 = .ok (.if_icmp .ne 7, 3) := by decide +kernel
theorem dL_act_609 : decode cL_act 609 = .ok (.iconst 1, 1) := by decide +kernel
theorem dL_act_610 : decode cL_act 610 = .ok (.goto 4, 3) := by decide +kernel
theorem dL_act_613 : decode cL_act 613 = .ok (.iconst 0, 1) := by decide +kernel
theorem dL_act_614 : decode cL_act 614 = .ok (.ireturn, 1) := by decide +kernel
set_option maxHeartbeats 4000000 in
set_option maxRecDepth 100000 in
theorem w_L_act_l125 {w : WT} {l : Launch} {p : Program} {e : Env} {s : State} {m : MethodId} {args : Array Value} {below : List Frame} {meth : Method} {c : Code} (C : KC w p s m args meth c cL_act 14 RL (some .boolean)) {v9 : Int32} {v10 : Int32} {v11 : Int32} {L : Lng} {Q : State → Prop} (z : Int32 × Mem) (o : (Int32 × Mem) ⊕ (Mem)) (hf : f_L_act_l125 v9 v10 v11 z = some o) (hA : ∀ z, o = .inl z → AtL w p l e ({ frames := 7, cells := 0, slots := 0, locals := 154 } : Room) s m args below meth c Q 14 125 z.2 L [(0, .ref (wAd w 0)), (4, .ref (wAd w 90)), (5, .ref (wAd w 91)), (7, .ref (wAd w 93)), (9, .int v9), (10, .int v10), (11, .int v11), (12, .int z.1)] []) (hE : ∀ y, o = .inr y → AtL w p l e ({ frames := 7, cells := 0, slots := 0, locals := 154 } : Room) s m args below meth c Q 14 164 y L [(0, .ref (wAd w 0)), (7, .ref (wAd w 93)), (9, .int v9), (10, .int v10), (11, .int v11)] []) : AtL w p l e ({ frames := 7, cells := 0, slots := 0, locals := 154 } : Room) s m args below meth c Q 14 125 z.2 L [(0, .ref (wAd w 0)), (4, .ref (wAd w 90)), (5, .ref (wAd w 91)), (7, .ref (wAd w 93)), (9, .int v9), (10, .int v10), (11, .int v11), (12, .int z.1)] [] := by
  intro H locs ls hP hS hl
  unfold f_L_act_l125 at hf
  refine lv_iload C.1 C.2.1 dL_act_125 (lv_at hl 7 rfl) ?_
  refine lv_iload C.1 C.2.1 dL_act_127 (lv_at hl 6 rfl) ?_
  refine lv_icmp_ge (tgt := 164) C.1 C.2.1 dL_act_129 (by decide) (fun c14 => ?_) (fun c14 => ?_)
  · have hf := (if_pos c14).symm.trans hf
    cases hf
    exact hE _ rfl _ _ _ hP hS (lv_sub hl [0, 3, 4, 5, 6] rfl)
  · have hf := (if_neg c14).symm.trans hf
    refine lv_aload C.1 C.2.1 dL_act_132 (lv_at hl 1 rfl) ?_
    refine lv_aload C.1 C.2.1 dL_act_134 (lv_at hl 3 rfl) ?_
    refine lv_iconst (v := 0) C.1 C.2.1 dL_act_136 (by decide) ?_
    obtain ⟨x15, hx15, hf⟩ := ob hf
    refine k_iald C hP (C9 C (Nat.le_of_ble_eq_true rfl)) (ar_L93 w L _) hx15 dL_act_137 ?_
    refine lv_iload C.1 C.2.1 dL_act_138 (lv_at hl 4 rfl) ?_
    obtain ⟨M16, hM16, hf⟩ := ob hf
    refine k_iast C hP hS (C9 C (Nat.le_of_ble_eq_true rfl)) (ar_L90 w L) hM16 dL_act_140 (fun H locs hP hS => ?_)
    refine lv_aload C.1 C.2.1 dL_act_141 (lv_at hl 2 rfl) ?_
    refine lv_aload C.1 C.2.1 dL_act_143 (lv_at hl 3 rfl) ?_
    refine lv_iconst (v := 0) C.1 C.2.1 dL_act_145 (by decide) ?_
    obtain ⟨x17, hx17, hf⟩ := ob hf
    refine k_iald C hP (C9 C (Nat.le_of_ble_eq_true rfl)) (ar_L93 w L _) hx17 dL_act_146 ?_
    refine lv_iload C.1 C.2.1 dL_act_147 (lv_at hl 5 rfl) ?_
    obtain ⟨M18, hM18, hf⟩ := ob hf
    refine k_iast C hP hS (C9 C (Nat.le_of_ble_eq_true rfl)) (ar_L91 w L) hM18 dL_act_149 (fun H locs hP hS => ?_)
    refine lv_aload C.1 C.2.1 dL_act_150 (lv_at hl 3 rfl) ?_
    refine lv_iconst (v := 0) C.1 C.2.1 dL_act_152 (by decide) ?_
    refine lv_dup2_11 C.1 C.2.1 dL_act_153 rfl rfl ?_
    obtain ⟨x19, hx19, hf⟩ := ob hf
    refine k_iald C hP (C9 C (Nat.le_of_ble_eq_true rfl)) (ar_L93 w L _) hx19 dL_act_154 ?_
    refine lv_iconst (v := 1) C.1 C.2.1 dL_act_155 (by decide) ?_
    refine lv_iadd C.1 C.2.1 dL_act_156 ?_
    obtain ⟨M20, hM20, hf⟩ := ob hf
    refine k_iast C hP hS (C9 C (Nat.le_of_ble_eq_true rfl)) (ar_L93 w L) hM20 dL_act_157 (fun H locs hP hS => ?_)
    refine lv_iinc (v := (z.1 + 1)) (lv' := [(12, .int (z.1 + 1)), (0, .ref (wAd w 0)), (4, .ref (wAd w 90)), (5, .ref (wAd w 91)), (7, .ref (wAd w 93)), (9, .int v9), (10, .int v10), (11, .int v11)]) C.1 C.2.1 dL_act_158 hl (k := 7) rfl rfl (by decide) rfl (fun ls hl => ?_)
    refine lv_goto (tgt := 125) C.1 C.2.1 dL_act_161 (by decide) ?_
    cases hf
    exact hA _ rfl _ _ _ hP hS (lv_sub hl [1, 2, 3, 4, 5, 6, 7, 0] rfl)
