/-! the law's own callers of the class: they catch what it throws -/
def NF (U : State) : Prop := ∀ j k, j < 3 → k < 3 → j ≠ k → va_Nc (TE j) (TE k) U
def PREL (w : WT) (av : List Value) (M : Mem) (L : Lng) : Array Value → State → Prop := va_Pc av (fun U => ((EF w U ∧ TF w U) ∧ NF U) ∧ va_P (wD w) vwCl (pic w M L) U.heap)
theorem NF.moved {s U : State} (h : NF s) (hvm : s.vm.Alike U.vm) : NF U := fun j k hj hk hn => (h j k hj hk hn).moved hvm
theorem blindPREL (w : WT) (av : List Value) (M : Mem) (L : Lng) : FrameBlind (PREL w av M L) := by
  intro a U g mk h
  exact ⟨h.1, ⟨⟨h.2.1.1.1.same rfl rfl, h.2.1.1.2.same rfl rfl⟩, h.2.1.2.moved (Vm.Alike.refl _)⟩, h.2.2⟩
def outL (L : Lng) (v : Int64) : Lng := fun k => if k = 1 then v else L k
section RowsL
variable {w : WT} {p : Program} {l : Launch} {e : Env} {R : Room} {s : State} {m : MethodId} {args : Array Value} {below : List Frame} {meth : Method} {c : Code} {H : Heap} {locs : List Loc} {cells slots : Nat} {Q : State → Prop}
variable {cc : ByteArray} {nL pc : Nat} {own : String} {ret : Option FieldType} {ls : Array Slot} {rest st0 : List Value} {M M' : Mem} {L L' : Lng}
variable {y : MethodName} {bytes : ByteArray} {maxL n index : Nat} {rt : Option FieldType} {rm : Room} {Qc : Array Value → State → Outcome → State → Prop} {As : List Value}
/-- what a caller of the class in the law stands on besides -/
def KL (w : WT) (s : State) (c : Code) (hh : List (Nat × Nat × Nat × Nat)) : Prop := TF w s ∧ NF s ∧ c.exceptionTable.toList = tableOf hh
theorem kEntW {hh : List (Nat × Nat × Nat × Nat)} {av : List Value} (hw : WOK w) (hy : plainName y.cls = true) (hc : y.cls = own) (hlen : (lg_sl av).length ≤ nL)
    (body : ∀ (p : Program) (e : Env) (s : State) (m : MethodId) (args : Array Value) (below : List Frame) (meth : Method) (c : Code), KC w p s m args meth c cc nL own ret → KL w s c hh → ∀ ls : Array Slot, lv_has ls nL (lv_args 0 av) → va_P (wD w) vwCl (pic w M L) s.heap →
      W p l e rm s m args below meth c s.heap [] 0 0 (MQ below Qc args s 1 6 (wA w)) (F0 m 0 ls [])) :
    Met l y (Cond.codeWith y cc nL ret hh :: BG) rm (PREL w av M L) Qc 1 6 (wA w) := by
  refine va_MetW (cc := cc) (maxL := nL) (ret := ret) (hh := hh) hy rfl ?_
  intro p e s m args below meth c s₁ B hml hv
  obtain ⟨rfl, hE, hP⟩ := hv
  rw [lg_entry_eq]
  have hts := atoms_spec (ws := Cond.codeWith y cc nL ret hh :: BG) B.pre
  subst hc
  exact body p e s m _ below meth c ⟨B.exec, B.bytes, hml, findClass_of_methodNamed B.named, fun x hx => hts x (List.mem_cons_of_mem _ hx), B.returns, B.notSynchronized, hE.1.1, hw⟩ ⟨hE.1.2, hE.2, vx_table (x := y) B (hts _ List.mem_cons_self)⟩ _ (lv_entry av hlen) hP
theorem kxV (C : KC w p s m args meth c cc nL own ret) (hT : TF w s) (hl : ls.size = nL) (hP : va_P (wD w) vwCl (pic w M L) H) (hS : va_S (wA w) s.heap H locs) {XC : String → State → State → Prop} (hM : vx_Met l y (Cond.code y bytes maxL rt :: BG) rm (PREX w (.ref (wAd w 0) :: As) M L) Qc XC 1 6 (wA w))
    (hG : GoodIn BG (wsV own index RX8 y (Cond.code y bytes maxL rt :: BG))) (hd : y.cls = RX8 ∧ y.cls ≠ "java/lang/invoke/MethodHandle" ∧ y.cls ≠ "java/lang/invoke/VarHandle" ∧ (parseMethodDescriptor y.desc).map (fun d => d.parameters.length) = some n)
    (hrm : rm.cells = 1 ∧ rm.slots = 6) (hR : rm.frames + 1 ≤ R.frames ∧ 8 + (maxL + 11) + rm.locals ≤ R.locals)
    (hn : As.length = n) (hst : st0 = As.reverse ++ .ref (wAd w 0) :: rest) (hr : (rest.map fun v => v.category).sum ≤ 8) (hdg : decode cc pc = .ok (.invokevirtual index, 3)) (hf : cells + 1 ≤ R.cells ∧ slots + 6 ≤ R.slots) :
    vx_Run p l e R s m args below meth c H locs cells slots 1 6 (F0 m pc ls st0) rest (Qc (Value.ref (wAd w 0) :: As).toArray) XC (wA w) :=
  vx_runV ⟨C.1, C.2.1, C.2.2.1, C.2.2.2.1, C.2.2.2.2.1⟩ hM (cwV n C.2.2.2.2.1 hG rfl hrm.1 hrm.2 hd hR) ⟨blindPREX w _ M L, va_recv (q := (RX8, TX8, 6)) C.2.2.2.2.2.2.2.1.1 hP rfl (pic_at (by decide) (ob_NoisePost h0_NoisePost w L _)), fun U hU hW => ⟨rfl, ⟨C.2.2.2.2.2.2.2.1.warm hW (by rw [hU]; exact hS), hT.warm hW (by rw [hU]; exact hS)⟩, by rw [hU]; exact hP⟩⟩ rfl hn hl hst (lv_room hr) hdg hf
theorem kxi {a : Array Value} {o : (Nat × Mem) ⊕ (Int32 × Mem)} (hr : vx_Run p l e R s m args below meth c H locs cells slots 1 6 (F0 m pc ls st0) rest (QX w o L a) (XX w o L) (wA w)) (hS : va_S (wA w) s.heap H locs)
    (kx : ∀ (k : Nat) (M1 : Mem) (ce : Cell) (q9 : Addr) (H1 : Heap) (locs1 : List Loc), o = .inl (k, M1) → k < 3 → va_P (wD w) vwCl (pic w M1 L) H1 → va_S (wA w) s.heap H1 locs1 → H1[q9]? = some ce → ce.vm = .none → s.vm.findClass (TE k) = some ce.cls → vx_W p l e R s m args below meth c H1 locs1 (cells + 1) (slots + 6) Q (F0 m pc ls rest) q9)
    (kk : ∀ (r : Int32) (M1 : Mem) (H1 : Heap) (locs1 : List Loc), o = .inr (r, M1) → va_P (wD w) vwCl (pic w M1 L) H1 → va_S (wA w) s.heap H1 locs1 → W p l e R s m args below meth c H1 locs1 (cells + 1) (slots + 6) Q (F0 m (pc + 3) ls (.int r :: rest))) :
    W p l e R s m args below meth c H locs cells slots Q (F0 m pc ls st0) := by
  intro T hT X
  rcases hr T hT X with ⟨v, st₀, t, T', L9, h0, X', hL, e1, e2, hq, st⟩ | ⟨q, st₀, t, T', L9, E, ce, h0, X', hL, e1, e2, ⟨u, ⟨ho, hk⟩, ⟨rfl, hb⟩, hF⟩, hce, hcv, hcl, st⟩
  · cases o with
    | inl u => exact hq.elim
    | inr r =>
      obtain ⟨⟨r1, u1, hv, ⟨hp1, hp2⟩, hb⟩, hF⟩ := hq
      cases hv
      obtain ⟨k1, k2, k3⟩ := vx_keep h0 e1 hS (fun _ _ h => h) (fun _ h => h) hL hF
      subst hp1; subst hp2
      unfold PW at hb
      rw [← e1] at hb
      obtain ⟨t2, a1, b1⟩ := kk r.1 r.2 T'.heap (locs ++ L9) rfl hb k3 T' rfl X'
      exact ⟨t2, st t2 a1, b1⟩
  · obtain ⟨k1, k2, k3⟩ := vx_keep h0 e1 hS (fun _ _ h => h) (fun _ h => h) hL hF
    unfold PW at hb
    rw [← e1] at hb
    obtain ⟨t2, a1, b1⟩ := kx u.1 u.2 ce q T'.heap (locs ++ L9) ho hk hb k3 (by rw [e1]; exact hce) hcv hcl T' rfl X'
    exact ⟨t2, st.trans a1, b1⟩
theorem vpL_twice (a b : Int64) : vp_updL (vp_updL (fun _ => 0) 0 a) 0 b = vp_updL (fun _ => 0) 0 b := by
  funext j
  unfold vp_updL
  split <;> rfl
theorem k_last (C : KC w p s m args meth c cc nL own ret) (hP : va_P (wD w) vwCl (pic w M L) H) (hS : va_S (wA w) s.heap H locs) {v : Int64} (hdg : decode cc pc = .ok (.lastore, 1))
    (kk : ∀ (H1 : Heap) (locs1 : List Loc), va_P (wD w) vwCl (pic w M (outL L v)) H1 → va_S (wA w) s.heap H1 locs1 → W p l e R s m args below meth c H1 locs1 cells slots Q (F0 m (pc + 1) ls rest)) :
    W p l e R s m args below meth c H locs cells slots Q (F0 m pc ls (.long v :: .int 0 :: .ref (wAd w 108) :: rest)) := by
  refine va_last C.1 C.2.1 C.2.2.2.2.2.2.2.1.1 hP (pic_D C.2.2.2.2.2.2.2.2 M L) hS 108 2 (pic_at (by decide) (show cellX w L 108 (M 108) = .inl (wJ w, 1, .inr (.inl (vp_updL (fun _ => 0) 0 (L 1)))) from rfl)) rfl (show vp_in 0 1 by unfold vp_in; decide) hdg (fun H1 locs1 h1 _ h2 => kk H1 locs1 ?_ h2)
  have e1 : (pic w M L).set 108 (wAd w 108, .inl (wJ w, 1, .inr (.inl (vp_updL (vp_updL (fun _ => 0) 0 (L 1)) (0 : Int32).toNatClampNeg v)))) = pic w M (outL L v) := by
    apply List.ext_getElem?
    intro i
    by_cases hi : i < 109
    · by_cases hc : 108 = i
      · subst hc
        rw [List.getElem?_set_self (by simp [pic])]
        rw [show (0 : Int32).toNatClampNeg = 0 from rfl, vpL_twice]
        rw [pic_at (by decide) (show cellX w (outL L v) 108 (M 108) = .inl (wJ w, 1, .inr (.inl (vp_updL (fun _ => 0) 0 v))) from rfl)]
      · rw [List.getElem?_set_ne hc]
        have h9 : cellX w (outL L v) i (M i) = cellX w L i (M i) := by
          unfold cellX objX outL
          simp [Ne.symm hc, fs_Model]
        simp [pic, hi, h9]
    · rw [List.getElem?_eq_none (by simp [pic]; omega), List.getElem?_eq_none (by simp [pic]; omega)]
  rw [← e1]
  exact h1
/-- a throw of kind k is caught by the handler of kind k: the ones ahead are of another kind -/
theorem k_catch (C : KC w p s m args meth c cc nL own ret) {hh : List (Nat × Nat × Nat × Nat)} (K : KL w s c hh) (k : Nat) (hk : k < 3) (pre : List ExceptionTableEntry) (x : ExceptionTableEntry) (suf : List ExceptionTableEntry) (hsplit : tableOf hh = pre ++ x :: suf)
    (hpass : ∀ z ∈ pre, z.catchType ≠ 0 ∧ ∃ j, j < 3 ∧ j ≠ k ∧ Cond.classLink own z.catchType (TE j) ∈ BG) (hx : covers x pc = true) (h0 : x.catchType ≠ 0) (hlink : Cond.classLink own x.catchType (TE k) ∈ BG)
    {ce : Cell} {q : Addr} (hcell : H[q]? = some ce) (hv : ce.vm = .none) (hcl : s.vm.findClass (TE k) = some ce.cls)
    (kk : W p l e R s m args below meth c H locs cells slots Q (F0 m x.handlerPc ls [.ref q])) : vx_W p l e R s m args below meth c H locs cells slots Q (F0 m pc ls rest) q := by
  refine vx_catch (E := TE k) (name := TE k) C.2.2.2.1 pre x suf (K.2.2.trans hsplit) (fun z hz => Or.inr ?_) hx h0 (C.2.2.2.2.1 _ hlink) ?_ hcell hv hcl kk
  · obtain ⟨h1, j, hj, hn, h2⟩ := hpass z hz
    exact ⟨h1, TE j, C.2.2.2.2.1 _ h2, K.2.1 k j hk hj (Ne.symm hn)⟩
  · have hd : Cond.castable (TE k) (TE k) ∈ DCL := by
      rcases (show k = 0 ∨ k = 1 ∨ k = 2 by omega) with rfl | rfl | rfl
      · exact List.mem_of_getElem? (i := 3) rfl
      · exact List.mem_of_getElem? (i := 4) rfl
      · exact List.mem_of_getElem? (i := 5) rfl
    exact (K.1.2.2.1 _ hd).use rfl
end RowsL
theorem dL_set_0 : decode cL_set 0 = .ok (.aload_n 3, 1) := by decide +kernel
theorem dL_set_1 : decode cL_set 1 = .ok (.iconst 0, 1) := by decide +kernel
theorem dL_set_2 : decode cL_set 2 = .ok (.aload_n 0, 1) := by decide +kernel
theorem dL_set_3 : decode cL_set 3 = .ok (.iload_n 1, 1) := by decide +kernel
theorem dL_set_4 : decode cL_set 4 = .ok (.iload_n 2, 1) := by decide +kernel
theorem dL_set_5 : decode cL_set 5 = .ok (.invokevirtual 7, 3) := by decide +kernel
theorem dL_set_8 : decode cL_set 8 = .ok (.i2l, 1) := by decide +kernel
theorem dL_set_9 : decode cL_set 9 = .ok (.lastore, 1) := by decide +kernel
theorem dL_set_10 : decode cL_set 10 = .ok (.goto 11, 3) := by decide +kernel
theorem dL_set_13 : decode cL_set 13 = .ok (.astore 4, 2) := by decide +kernel
theorem dL_set_15 : decode cL_set 15 = .ok (.iconst 1, 1) := by decide +kernel
theorem dL_set_16 : decode cL_set 16 = .ok (.ireturn, 1) := by decide +kernel
theorem dL_set_17 : decode cL_set 17 = .ok (.astore 4, 2) := by decide +kernel
theorem dL_set_19 : decode cL_set 19 = .ok (.iconst 2, 1) := by decide +kernel
theorem dL_set_20 : decode cL_set 20 = .ok (.ireturn, 1) := by decide +kernel
theorem dL_set_21 : decode cL_set 21 = .ok (.iconst 0, 1) := by decide +kernel
theorem dL_set_22 : decode cL_set 22 = .ok (.ireturn, 1) := by decide +kernel
def cd_set (u : Nat) : Option Int32 := if u = 0 then some 1 else if u = 1 then some 2 else none
def g_set (a1 : Int32) (a2 : Int32) (M : Mem) (L : Lng) : Option (Int32 × Mem × Lng) :=
  (f_X8_set a1 a2 M).bind fun o => Sum.elim (fun u => (cd_set u.1).bind fun k => some (k, u.2, L)) (fun r => some (0, r.2, outL L (Int32.toInt64 r.1))) o
theorem hd_L_set : yL_set.cls ≠ "java/lang/invoke/MethodHandle" ∧ yL_set.cls ≠ "java/lang/invoke/VarHandle" ∧ (parseMethodDescriptor yL_set.desc).map (fun d => d.parameters.length) = some 4 := by decide +kernel
set_option maxHeartbeats 4000000 in
set_option maxRecDepth 100000 in
theorem c_L_set (w : WT) (l : Launch) (hw : WOK w) (hfl : l.stackTraces = false) {a1 : Int32} {a2 : Int32} {M : Mem} {L : Lng} {out : Int32 × Mem × Lng} (hf : g_set a1 a2 M L = some out) : Met l yL_set (Cond.codeWith yL_set cL_set 5 (some .int) [(0, 10, 13, 13), (0, 10, 17, 15)] :: BG) ({ frames := 7, cells := 1, slots := 6, locals := 154 } : Room) (PREL w [.ref (wAd w 0), .int a1, .int a2, .ref (wAd w 108)] M L) (QI w out.1 out.2.1 out.2.2) 1 6 (wA w) := by
  refine kEntW hw (by decide +kernel) rfl (Nat.le_of_ble_eq_true rfl) ?_
  intro p e s m args below meth c C K ls hl hP
  have hS : va_S (wA w) s.heap s.heap [] := va_S.rf
  have hl : lv_has ls 5 [(0, .ref (wAd w 0)), (1, .int a1), (2, .int a2), (3, .ref (wAd w 108))] := hl
  unfold g_set at hf
  refine lv_aload_n C.1 C.2.1 dL_set_0 rfl (lv_at hl 3 rfl) ?_
  refine lv_iconst (v := 0) C.1 C.2.1 dL_set_1 (by decide) ?_
  refine lv_aload_n C.1 C.2.1 dL_set_2 rfl (lv_at hl 0 rfl) ?_
  refine lv_iload_n C.1 C.2.1 dL_set_3 rfl (lv_at hl 1 rfl) ?_
  refine lv_iload_n C.1 C.2.1 dL_set_4 rfl (lv_at hl 2 rfl) ?_
  obtain ⟨o, ho, hf⟩ := ob hf
  refine kxi (o := o) (kxV (As := [.int a1, .int a2]) (rest := [.int 0, .ref (wAd w 108)]) C K.1 hl.1 hP hS (c_X8_set w l C.2.2.2.2.2.2.2.2 hfl (L := L) ho) (gV q465 q466 q467 q1 q468) hd_X8_set ⟨rfl, rfl⟩ ⟨Nat.le_of_ble_eq_true rfl, Nat.le_of_ble_eq_true rfl⟩ rfl rfl (Nat.le_of_ble_eq_true rfl) dL_set_5 ⟨Nat.le_refl _, Nat.le_refl _⟩) hS (fun k M1 ce q9 H locs hok hk hP hS hce hcv hcl => ?_) (fun r M1 H locs hok hP hS => ?_)
  · subst hok
    simp only [Sum.elim_inl] at hf
    obtain ⟨kc, hkc, hf⟩ := ob hf
    cases hf
    unfold cd_set at hkc
    by_cases e0 : k = 0
    · have hkc := (if_pos e0).symm.trans hkc
      cases hkc
      subst e0
      refine k_catch C K 0 (by decide) [] ⟨0, 10, 13, 13⟩ [⟨0, 10, 17, 15⟩] rfl (fun z hz => nomatch hz) (by decide) (by decide) q463 hce hcv hcl ?_
      refine lv_astore (lv' := [(4, .ref q9), (0, .ref (wAd w 0)), (1, .int a1), (2, .int a2), (3, .ref (wAd w 108))]) C.1 C.2.1 dL_set_13 hl (by decide) rfl (fun ls hl => ?_)
      refine lv_iconst (v := 1) C.1 C.2.1 dL_set_15 (by decide) ?_
      exact kri C hP hS dL_set_16
    · have hkc := (if_neg e0).symm.trans hkc
      by_cases e1 : k = 1
      · have hkc := (if_pos e1).symm.trans hkc
        cases hkc
        subst e1
        refine k_catch C K 1 (by decide) [⟨0, 10, 13, 13⟩] ⟨0, 10, 17, 15⟩ [] rfl (fun z hz => by cases List.mem_singleton.mp hz; exact ⟨by decide, 0, by decide, by decide, q463⟩) (by decide) (by decide) q464 hce hcv hcl ?_
        refine lv_astore (lv' := [(4, .ref q9), (0, .ref (wAd w 0)), (1, .int a1), (2, .int a2), (3, .ref (wAd w 108))]) C.1 C.2.1 dL_set_17 hl (by decide) rfl (fun ls hl => ?_)
        refine lv_iconst (v := 2) C.1 C.2.1 dL_set_19 (by decide) ?_
        exact kri C hP hS dL_set_20
      · have hkc := (if_neg e1).symm.trans hkc
        cases hkc
  · subst hok
    simp only [Sum.elim_inr] at hf
    cases hf
    refine lv_i2l (v := Int32.toInt64 r) C.1 C.2.1 dL_set_8 rfl ?_
    refine k_last C hP hS dL_set_9 (fun H locs hP hS => ?_)
    refine lv_goto (tgt := 21) C.1 C.2.1 dL_set_10 (by decide) ?_
    refine lv_iconst (v := 0) C.1 C.2.1 dL_set_21 (by decide) ?_
    exact kri C hP hS dL_set_22
theorem dL_tell_0 : decode cL_tell 0 = .ok (.aload 4, 2) := by decide +kernel
theorem dL_tell_2 : decode cL_tell 2 = .ok (.iconst 0, 1) := by decide +kernel
theorem dL_tell_3 : decode cL_tell 3 = .ok (.aload_n 0, 1) := by decide +kernel
theorem dL_tell_4 : decode cL_tell 4 = .ok (.iload_n 1, 1) := by decide +kernel
theorem dL_tell_5 : decode cL_tell 5 = .ok (.iload_n 2, 1) := by decide +kernel
theorem dL_tell_6 : decode cL_tell 6 = .ok (.iload_n 3, 1) := by decide +kernel
theorem dL_tell_7 : decode cL_tell 7 = .ok (.invokevirtual 17, 3) := by decide +kernel
theorem dL_tell_10 : decode cL_tell 10 = .ok (.i2l, 1) := by decide +kernel
theorem dL_tell_11 : decode cL_tell 11 = .ok (.lastore, 1) := by decide +kernel
theorem dL_tell_12 : decode cL_tell 12 = .ok (.goto 11, 3) := by decide +kernel
theorem dL_tell_15 : decode cL_tell 15 = .ok (.astore 5, 2) := by decide +kernel
theorem dL_tell_17 : decode cL_tell 17 = .ok (.iconst 1, 1) := by decide +kernel
theorem dL_tell_18 : decode cL_tell 18 = .ok (.ireturn, 1) := by decide +kernel
theorem dL_tell_19 : decode cL_tell 19 = .ok (.astore 5, 2) := by decide +kernel
theorem dL_tell_21 : decode cL_tell 21 = .ok (.iconst 2, 1) := by decide +kernel
theorem dL_tell_22 : decode cL_tell 22 = .ok (.ireturn, 1) := by decide +kernel
theorem dL_tell_23 : decode cL_tell 23 = .ok (.iconst 0, 1) := by decide +kernel
theorem dL_tell_24 : decode cL_tell 24 = .ok (.ireturn, 1) := by decide +kernel
def cd_tell (u : Nat) : Option Int32 := if u = 1 then some 1 else if u = 2 then some 2 else none
def g_tell (a1 : Int32) (a2 : Int32) (a3 : Int32) (M : Mem) (L : Lng) : Option (Int32 × Mem × Lng) :=
  (f_X8_tell a1 a2 a3 M).bind fun o => Sum.elim (fun u => (cd_tell u.1).bind fun k => some (k, u.2, L)) (fun r => some (0, r.2, outL L (Int32.toInt64 r.1))) o
theorem hd_L_tell : yL_tell.cls ≠ "java/lang/invoke/MethodHandle" ∧ yL_tell.cls ≠ "java/lang/invoke/VarHandle" ∧ (parseMethodDescriptor yL_tell.desc).map (fun d => d.parameters.length) = some 5 := by decide +kernel
set_option maxHeartbeats 4000000 in
set_option maxRecDepth 100000 in
theorem c_L_tell (w : WT) (l : Launch) (hw : WOK w) (hfl : l.stackTraces = false) {a1 : Int32} {a2 : Int32} {a3 : Int32} {M : Mem} {L : Lng} {out : Int32 × Mem × Lng} (hf : g_tell a1 a2 a3 M L = some out) : Met l yL_tell (Cond.codeWith yL_tell cL_tell 6 (some .int) [(0, 12, 15, 15), (0, 12, 19, 21)] :: BG) ({ frames := 7, cells := 1, slots := 6, locals := 154 } : Room) (PREL w [.ref (wAd w 0), .int a1, .int a2, .int a3, .ref (wAd w 108)] M L) (QI w out.1 out.2.1 out.2.2) 1 6 (wA w) := by
  refine kEntW hw (by decide +kernel) rfl (Nat.le_of_ble_eq_true rfl) ?_
  intro p e s m args below meth c C K ls hl hP
  have hS : va_S (wA w) s.heap s.heap [] := va_S.rf
  have hl : lv_has ls 6 [(0, .ref (wAd w 0)), (1, .int a1), (2, .int a2), (3, .int a3), (4, .ref (wAd w 108))] := hl
  unfold g_tell at hf
  refine lv_aload C.1 C.2.1 dL_tell_0 (lv_at hl 4 rfl) ?_
  refine lv_iconst (v := 0) C.1 C.2.1 dL_tell_2 (by decide) ?_
  refine lv_aload_n C.1 C.2.1 dL_tell_3 rfl (lv_at hl 0 rfl) ?_
  refine lv_iload_n C.1 C.2.1 dL_tell_4 rfl (lv_at hl 1 rfl) ?_
  refine lv_iload_n C.1 C.2.1 dL_tell_5 rfl (lv_at hl 2 rfl) ?_
  refine lv_iload_n C.1 C.2.1 dL_tell_6 rfl (lv_at hl 3 rfl) ?_
  obtain ⟨o, ho, hf⟩ := ob hf
  refine kxi (o := o) (kxV (As := [.int a1, .int a2, .int a3]) (rest := [.int 0, .ref (wAd w 108)]) C K.1 hl.1 hP hS (c_X8_tell w l C.2.2.2.2.2.2.2.2 hfl (L := L) ho) (gV q653 q654 q655 q1 q656) hd_X8_tell ⟨rfl, rfl⟩ ⟨Nat.le_of_ble_eq_true rfl, Nat.le_of_ble_eq_true rfl⟩ rfl rfl (Nat.le_of_ble_eq_true rfl) dL_tell_7 ⟨Nat.le_refl _, Nat.le_refl _⟩) hS (fun k M1 ce q9 H locs hok hk hP hS hce hcv hcl => ?_) (fun r M1 H locs hok hP hS => ?_)
  · subst hok
    simp only [Sum.elim_inl] at hf
    obtain ⟨kc, hkc, hf⟩ := ob hf
    cases hf
    unfold cd_tell at hkc
    by_cases e0 : k = 1
    · have hkc := (if_pos e0).symm.trans hkc
      cases hkc
      subst e0
      refine k_catch C K 1 (by decide) [] ⟨0, 12, 15, 15⟩ [⟨0, 12, 19, 21⟩] rfl (fun z hz => nomatch hz) (by decide) (by decide) q464 hce hcv hcl ?_
      refine lv_astore (lv' := [(5, .ref q9), (0, .ref (wAd w 0)), (1, .int a1), (2, .int a2), (3, .int a3), (4, .ref (wAd w 108))]) C.1 C.2.1 dL_tell_15 hl (by decide) rfl (fun ls hl => ?_)
      refine lv_iconst (v := 1) C.1 C.2.1 dL_tell_17 (by decide) ?_
      exact kri C hP hS dL_tell_18
    · have hkc := (if_neg e0).symm.trans hkc
      by_cases e1 : k = 2
      · have hkc := (if_pos e1).symm.trans hkc
        cases hkc
        subst e1
        refine k_catch C K 2 (by decide) [⟨0, 12, 15, 15⟩] ⟨0, 12, 19, 21⟩ [] rfl (fun z hz => by cases List.mem_singleton.mp hz; exact ⟨by decide, 1, by decide, by decide, q464⟩) (by decide) (by decide) q652 hce hcv hcl ?_
        refine lv_astore (lv' := [(5, .ref q9), (0, .ref (wAd w 0)), (1, .int a1), (2, .int a2), (3, .int a3), (4, .ref (wAd w 108))]) C.1 C.2.1 dL_tell_19 hl (by decide) rfl (fun ls hl => ?_)
        refine lv_iconst (v := 2) C.1 C.2.1 dL_tell_21 (by decide) ?_
        exact kri C hP hS dL_tell_22
      · have hkc := (if_neg e1).symm.trans hkc
        cases hkc
  · subst hok
    simp only [Sum.elim_inr] at hf
    cases hf
    refine lv_i2l (v := Int32.toInt64 r) C.1 C.2.1 dL_tell_10 rfl ?_
    refine k_last C hP hS dL_tell_11 (fun H locs hP hS => ?_)
    refine lv_goto (tgt := 23) C.1 C.2.1 dL_tell_12 (by decide) ?_
    refine lv_iconst (v := 0) C.1 C.2.1 dL_tell_23 (by decide) ?_
    exact kri C hP hS dL_tell_24
theorem dL_correct_0 : decode cL_correct 0 = .ok (.aload 4, 2) := by decide +kernel
theorem dL_correct_2 : decode cL_correct 2 = .ok (.iconst 0, 1) := by decide +kernel
theorem dL_correct_3 : decode cL_correct 3 = .ok (.aload_n 0, 1) := by decide +kernel
theorem dL_correct_4 : decode cL_correct 4 = .ok (.iload_n 1, 1) := by decide +kernel
theorem dL_correct_5 : decode cL_correct 5 = .ok (.iload_n 2, 1) := by decide +kernel
theorem dL_correct_6 : decode cL_correct 6 = .ok (.iload_n 3, 1) := by decide +kernel
theorem dL_correct_7 : decode cL_correct 7 = .ok (.invokevirtual 23, 3) := by decide +kernel
theorem dL_correct_10 : decode cL_correct 10 = .ok (.i2l, 1) := by decide +kernel
theorem dL_correct_11 : decode cL_correct 11 = .ok (.lastore, 1) := by decide +kernel
theorem dL_correct_12 : decode cL_correct 12 = .ok (.goto 11, 3) := by decide +kernel
theorem dL_correct_15 : decode cL_correct 15 = .ok (.astore 5, 2) := by decide +kernel
theorem dL_correct_17 : decode cL_correct 17 = .ok (.iconst 1, 1) := by decide +kernel
theorem dL_correct_18 : decode cL_correct 18 = .ok (.ireturn, 1) := by decide +kernel
theorem dL_correct_19 : decode cL_correct 19 = .ok (.astore 5, 2) := by decide +kernel
theorem dL_correct_21 : decode cL_correct 21 = .ok (.iconst 2, 1) := by decide +kernel
theorem dL_correct_22 : decode cL_correct 22 = .ok (.ireturn, 1) := by decide +kernel
theorem dL_correct_23 : decode cL_correct 23 = .ok (.iconst 0, 1) := by decide +kernel
theorem dL_correct_24 : decode cL_correct 24 = .ok (.ireturn, 1) := by decide +kernel
def cd_correct (u : Nat) : Option Int32 := if u = 0 then some 1 else if u = 1 then some 2 else none
def g_correct (a1 : Int32) (a2 : Int32) (a3 : Int32) (M : Mem) (L : Lng) : Option (Int32 × Mem × Lng) :=
  (f_X8_correct a1 a2 a3 M).bind fun o => Sum.elim (fun u => (cd_correct u.1).bind fun k => some (k, u.2, L)) (fun r => some (0, r.2, outL L (Int32.toInt64 r.1))) o
theorem hd_L_correct : yL_correct.cls ≠ "java/lang/invoke/MethodHandle" ∧ yL_correct.cls ≠ "java/lang/invoke/VarHandle" ∧ (parseMethodDescriptor yL_correct.desc).map (fun d => d.parameters.length) = some 5 := by decide +kernel
set_option maxHeartbeats 4000000 in
set_option maxRecDepth 100000 in
theorem c_L_correct (w : WT) (l : Launch) (hw : WOK w) (hfl : l.stackTraces = false) {a1 : Int32} {a2 : Int32} {a3 : Int32} {M : Mem} {L : Lng} {out : Int32 × Mem × Lng} (hf : g_correct a1 a2 a3 M L = some out) : Met l yL_correct (Cond.codeWith yL_correct cL_correct 6 (some .int) [(0, 12, 15, 13), (0, 12, 19, 15)] :: BG) ({ frames := 7, cells := 1, slots := 6, locals := 154 } : Room) (PREL w [.ref (wAd w 0), .int a1, .int a2, .int a3, .ref (wAd w 108)] M L) (QI w out.1 out.2.1 out.2.2) 1 6 (wA w) := by
  refine kEntW hw (by decide +kernel) rfl (Nat.le_of_ble_eq_true rfl) ?_
  intro p e s m args below meth c C K ls hl hP
  have hS : va_S (wA w) s.heap s.heap [] := va_S.rf
  have hl : lv_has ls 6 [(0, .ref (wAd w 0)), (1, .int a1), (2, .int a2), (3, .int a3), (4, .ref (wAd w 108))] := hl
  unfold g_correct at hf
  refine lv_aload C.1 C.2.1 dL_correct_0 (lv_at hl 4 rfl) ?_
  refine lv_iconst (v := 0) C.1 C.2.1 dL_correct_2 (by decide) ?_
  refine lv_aload_n C.1 C.2.1 dL_correct_3 rfl (lv_at hl 0 rfl) ?_
  refine lv_iload_n C.1 C.2.1 dL_correct_4 rfl (lv_at hl 1 rfl) ?_
  refine lv_iload_n C.1 C.2.1 dL_correct_5 rfl (lv_at hl 2 rfl) ?_
  refine lv_iload_n C.1 C.2.1 dL_correct_6 rfl (lv_at hl 3 rfl) ?_
  obtain ⟨o, ho, hf⟩ := ob hf
  refine kxi (o := o) (kxV (As := [.int a1, .int a2, .int a3]) (rest := [.int 0, .ref (wAd w 108)]) C K.1 hl.1 hP hS (c_X8_correct w l C.2.2.2.2.2.2.2.2 hfl (L := L) ho) (gV q687 q688 q689 q1 q690) hd_X8_correct ⟨rfl, rfl⟩ ⟨Nat.le_of_ble_eq_true rfl, Nat.le_of_ble_eq_true rfl⟩ rfl rfl (Nat.le_of_ble_eq_true rfl) dL_correct_7 ⟨Nat.le_refl _, Nat.le_refl _⟩) hS (fun k M1 ce q9 H locs hok hk hP hS hce hcv hcl => ?_) (fun r M1 H locs hok hP hS => ?_)
  · subst hok
    simp only [Sum.elim_inl] at hf
    obtain ⟨kc, hkc, hf⟩ := ob hf
    cases hf
    unfold cd_correct at hkc
    by_cases e0 : k = 0
    · have hkc := (if_pos e0).symm.trans hkc
      cases hkc
      subst e0
      refine k_catch C K 0 (by decide) [] ⟨0, 12, 15, 13⟩ [⟨0, 12, 19, 15⟩] rfl (fun z hz => nomatch hz) (by decide) (by decide) q463 hce hcv hcl ?_
      refine lv_astore (lv' := [(5, .ref q9), (0, .ref (wAd w 0)), (1, .int a1), (2, .int a2), (3, .int a3), (4, .ref (wAd w 108))]) C.1 C.2.1 dL_correct_15 hl (by decide) rfl (fun ls hl => ?_)
      refine lv_iconst (v := 1) C.1 C.2.1 dL_correct_17 (by decide) ?_
      exact kri C hP hS dL_correct_18
    · have hkc := (if_neg e0).symm.trans hkc
      by_cases e1 : k = 1
      · have hkc := (if_pos e1).symm.trans hkc
        cases hkc
        subst e1
        refine k_catch C K 1 (by decide) [⟨0, 12, 15, 13⟩] ⟨0, 12, 19, 15⟩ [] rfl (fun z hz => by cases List.mem_singleton.mp hz; exact ⟨by decide, 0, by decide, by decide, q463⟩) (by decide) (by decide) q464 hce hcv hcl ?_
        refine lv_astore (lv' := [(5, .ref q9), (0, .ref (wAd w 0)), (1, .int a1), (2, .int a2), (3, .int a3), (4, .ref (wAd w 108))]) C.1 C.2.1 dL_correct_19 hl (by decide) rfl (fun ls hl => ?_)
        refine lv_iconst (v := 2) C.1 C.2.1 dL_correct_21 (by decide) ?_
        exact kri C hP hS dL_correct_22
      · have hkc := (if_neg e1).symm.trans hkc
        cases hkc
  · subst hok
    simp only [Sum.elim_inr] at hf
    cases hf
    refine lv_i2l (v := Int32.toInt64 r) C.1 C.2.1 dL_correct_10 rfl ?_
    refine k_last C hP hS dL_correct_11 (fun H locs hP hS => ?_)
    refine lv_goto (tgt := 23) C.1 C.2.1 dL_correct_12 (by decide) ?_
    refine lv_iconst (v := 0) C.1 C.2.1 dL_correct_23 (by decide) ?_
    exact kri C hP hS dL_correct_24
theorem dL_forget_0 : decode cL_forget 0 = .ok (.aload_n 2, 1) := by decide +kernel
theorem dL_forget_1 : decode cL_forget 1 = .ok (.iconst 0, 1) := by decide +kernel
theorem dL_forget_2 : decode cL_forget 2 = .ok (.aload_n 0, 1) := by decide +kernel
theorem dL_forget_3 : decode cL_forget 3 = .ok (.iload_n 1, 1) := by decide +kernel
theorem dL_forget_4 : decode cL_forget 4 = .ok (.invokevirtual 26, 3) := by decide +kernel
theorem dL_forget_7 : decode cL_forget 7 = .ok (.i2l, 1) := by decide +kernel
theorem dL_forget_8 : decode cL_forget 8 = .ok (.lastore, 1) := by decide +kernel
theorem dL_forget_9 : decode cL_forget 9 = .ok (.goto 6, 3) := by decide +kernel
theorem dL_forget_12 : decode cL_forget 12 = .ok (.astore_n 3, 1) := by decide +kernel
theorem dL_forget_13 : decode cL_forget 13 = .ok (.iconst 1, 1) := by decide +kernel
theorem dL_forget_14 : decode cL_forget 14 = .ok (.ireturn, 1) := by decide +kernel
theorem dL_forget_15 : decode cL_forget 15 = .ok (.iconst 0, 1) := by decide +kernel
theorem dL_forget_16 : decode cL_forget 16 = .ok (.ireturn, 1) := by decide +kernel
def cd_forget (u : Nat) : Option Int32 := if u = 1 then some 1 else none
def g_forget (a1 : Int32) (M : Mem) (L : Lng) : Option (Int32 × Mem × Lng) :=
  (f_X8_forget a1 M).bind fun o => Sum.elim (fun u => (cd_forget u.1).bind fun k => some (k, u.2, L)) (fun r => some (0, r.2, outL L (Int32.toInt64 r.1))) o
theorem hd_L_forget : yL_forget.cls ≠ "java/lang/invoke/MethodHandle" ∧ yL_forget.cls ≠ "java/lang/invoke/VarHandle" ∧ (parseMethodDescriptor yL_forget.desc).map (fun d => d.parameters.length) = some 3 := by decide +kernel
set_option maxHeartbeats 4000000 in
set_option maxRecDepth 100000 in
theorem c_L_forget (w : WT) (l : Launch) (hw : WOK w) (hfl : l.stackTraces = false) {a1 : Int32} {M : Mem} {L : Lng} {out : Int32 × Mem × Lng} (hf : g_forget a1 M L = some out) : Met l yL_forget (Cond.codeWith yL_forget cL_forget 4 (some .int) [(0, 9, 12, 15)] :: BG) ({ frames := 7, cells := 1, slots := 6, locals := 152 } : Room) (PREL w [.ref (wAd w 0), .int a1, .ref (wAd w 108)] M L) (QI w out.1 out.2.1 out.2.2) 1 6 (wA w) := by
  refine kEntW hw (by decide +kernel) rfl (Nat.le_of_ble_eq_true rfl) ?_
  intro p e s m args below meth c C K ls hl hP
  have hS : va_S (wA w) s.heap s.heap [] := va_S.rf
  have hl : lv_has ls 4 [(0, .ref (wAd w 0)), (1, .int a1), (2, .ref (wAd w 108))] := hl
  unfold g_forget at hf
  refine lv_aload_n C.1 C.2.1 dL_forget_0 rfl (lv_at hl 2 rfl) ?_
  refine lv_iconst (v := 0) C.1 C.2.1 dL_forget_1 (by decide) ?_
  refine lv_aload_n C.1 C.2.1 dL_forget_2 rfl (lv_at hl 0 rfl) ?_
  refine lv_iload_n C.1 C.2.1 dL_forget_3 rfl (lv_at hl 1 rfl) ?_
  obtain ⟨o, ho, hf⟩ := ob hf
  refine kxi (o := o) (kxV (As := [.int a1]) (rest := [.int 0, .ref (wAd w 108)]) C K.1 hl.1 hP hS (c_X8_forget w l C.2.2.2.2.2.2.2.2 hfl (L := L) ho) (gV q700 q701 q702 q1 q703) hd_X8_forget ⟨rfl, rfl⟩ ⟨Nat.le_of_ble_eq_true rfl, Nat.le_of_ble_eq_true rfl⟩ rfl rfl (Nat.le_of_ble_eq_true rfl) dL_forget_4 ⟨Nat.le_refl _, Nat.le_refl _⟩) hS (fun k M1 ce q9 H locs hok hk hP hS hce hcv hcl => ?_) (fun r M1 H locs hok hP hS => ?_)
  · subst hok
    simp only [Sum.elim_inl] at hf
    obtain ⟨kc, hkc, hf⟩ := ob hf
    cases hf
    unfold cd_forget at hkc
    by_cases e0 : k = 1
    · have hkc := (if_pos e0).symm.trans hkc
      cases hkc
      subst e0
      refine k_catch C K 1 (by decide) [] ⟨0, 9, 12, 15⟩ [] rfl (fun z hz => nomatch hz) (by decide) (by decide) q464 hce hcv hcl ?_
      refine lv_astore_n (lv' := [(3, .ref q9), (0, .ref (wAd w 0)), (1, .int a1), (2, .ref (wAd w 108))]) C.1 C.2.1 dL_forget_12 rfl hl (by decide) rfl (fun ls hl => ?_)
      refine lv_iconst (v := 1) C.1 C.2.1 dL_forget_13 (by decide) ?_
      exact kri C hP hS dL_forget_14
    · have hkc := (if_neg e0).symm.trans hkc
      cases hkc
  · subst hok
    simp only [Sum.elim_inr] at hf
    cases hf
    refine lv_i2l (v := Int32.toInt64 r) C.1 C.2.1 dL_forget_7 rfl ?_
    refine k_last C hP hS dL_forget_8 (fun H locs hP hS => ?_)
    refine lv_goto (tgt := 15) C.1 C.2.1 dL_forget_9 (by decide) ?_
    refine lv_iconst (v := 0) C.1 C.2.1 dL_forget_15 (by decide) ?_
    exact kri C hP hS dL_forget_16
theorem dL_complain_0 : decode cL_complain 0 = .ok (.aload_n 2, 1) := by decide +kernel
theorem dL_complain_1 : decode cL_complain 1 = .ok (.iconst 0, 1) := by decide +kernel
theorem dL_complain_2 : decode cL_complain 2 = .ok (.aload_n 0, 1) := by decide +kernel
theorem dL_complain_3 : decode cL_complain 3 = .ok (.iload_n 1, 1) := by decide +kernel
theorem dL_complain_4 : decode cL_complain 4 = .ok (.invokevirtual 30, 3) := by decide +kernel
theorem dL_complain_7 : decode cL_complain 7 = .ok (.i2l, 1) := by decide +kernel
theorem dL_complain_8 : decode cL_complain 8 = .ok (.lastore, 1) := by decide +kernel
theorem dL_complain_9 : decode cL_complain 9 = .ok (.goto 9, 3) := by decide +kernel
theorem dL_complain_12 : decode cL_complain 12 = .ok (.astore_n 3, 1) := by decide +kernel
theorem dL_complain_13 : decode cL_complain 13 = .ok (.iconst 1, 1) := by decide +kernel
theorem dL_complain_14 : decode cL_complain 14 = .ok (.ireturn, 1) := by decide +kernel
theorem dL_complain_15 : decode cL_complain 15 = .ok (.astore_n 3, 1) := by decide +kernel
theorem dL_complain_16 : decode cL_complain 16 = .ok (.iconst 2, 1) := by decide +kernel
theorem dL_complain_17 : decode cL_complain 17 = .ok (.ireturn, 1) := by decide +kernel
theorem dL_complain_18 : decode cL_complain 18 = .ok (.iconst 0, 1) := by decide +kernel
theorem dL_complain_19 : decode cL_complain 19 = .ok (.ireturn, 1) := by decide +kernel
def cd_complain (u : Nat) : Option Int32 := if u = 1 then some 1 else if u = 2 then some 2 else none
def g_complain (a1 : Int32) (M : Mem) (L : Lng) : Option (Int32 × Mem × Lng) :=
  (f_X8_complain a1 M).bind fun o => Sum.elim (fun u => (cd_complain u.1).bind fun k => some (k, u.2, L)) (fun r => some (0, r.2, outL L (Int32.toInt64 r.1))) o
theorem hd_L_complain : yL_complain.cls ≠ "java/lang/invoke/MethodHandle" ∧ yL_complain.cls ≠ "java/lang/invoke/VarHandle" ∧ (parseMethodDescriptor yL_complain.desc).map (fun d => d.parameters.length) = some 3 := by decide +kernel
set_option maxHeartbeats 4000000 in
set_option maxRecDepth 100000 in
theorem c_L_complain (w : WT) (l : Launch) (hw : WOK w) (hfl : l.stackTraces = false) {a1 : Int32} {M : Mem} {L : Lng} {out : Int32 × Mem × Lng} (hf : g_complain a1 M L = some out) : Met l yL_complain (Cond.codeWith yL_complain cL_complain 4 (some .int) [(0, 9, 12, 15), (0, 9, 15, 21)] :: BG) ({ frames := 7, cells := 1, slots := 6, locals := 153 } : Room) (PREL w [.ref (wAd w 0), .int a1, .ref (wAd w 108)] M L) (QI w out.1 out.2.1 out.2.2) 1 6 (wA w) := by
  refine kEntW hw (by decide +kernel) rfl (Nat.le_of_ble_eq_true rfl) ?_
  intro p e s m args below meth c C K ls hl hP
  have hS : va_S (wA w) s.heap s.heap [] := va_S.rf
  have hl : lv_has ls 4 [(0, .ref (wAd w 0)), (1, .int a1), (2, .ref (wAd w 108))] := hl
  unfold g_complain at hf
  refine lv_aload_n C.1 C.2.1 dL_complain_0 rfl (lv_at hl 2 rfl) ?_
  refine lv_iconst (v := 0) C.1 C.2.1 dL_complain_1 (by decide) ?_
  refine lv_aload_n C.1 C.2.1 dL_complain_2 rfl (lv_at hl 0 rfl) ?_
  refine lv_iload_n C.1 C.2.1 dL_complain_3 rfl (lv_at hl 1 rfl) ?_
  obtain ⟨o, ho, hf⟩ := ob hf
  refine kxi (o := o) (kxV (As := [.int a1]) (rest := [.int 0, .ref (wAd w 108)]) C K.1 hl.1 hP hS (c_X8_complain w l C.2.2.2.2.2.2.2.2 hfl (L := L) ho) (gV q713 q714 q715 q1 q716) hd_X8_complain ⟨rfl, rfl⟩ ⟨Nat.le_of_ble_eq_true rfl, Nat.le_of_ble_eq_true rfl⟩ rfl rfl (Nat.le_of_ble_eq_true rfl) dL_complain_4 ⟨Nat.le_refl _, Nat.le_refl _⟩) hS (fun k M1 ce q9 H locs hok hk hP hS hce hcv hcl => ?_) (fun r M1 H locs hok hP hS => ?_)
  · subst hok
    simp only [Sum.elim_inl] at hf
    obtain ⟨kc, hkc, hf⟩ := ob hf
    cases hf
    unfold cd_complain at hkc
    by_cases e0 : k = 1
    · have hkc := (if_pos e0).symm.trans hkc
      cases hkc
      subst e0
      refine k_catch C K 1 (by decide) [] ⟨0, 9, 12, 15⟩ [⟨0, 9, 15, 21⟩] rfl (fun z hz => nomatch hz) (by decide) (by decide) q464 hce hcv hcl ?_
      refine lv_astore_n (lv' := [(3, .ref q9), (0, .ref (wAd w 0)), (1, .int a1), (2, .ref (wAd w 108))]) C.1 C.2.1 dL_complain_12 rfl hl (by decide) rfl (fun ls hl => ?_)
      refine lv_iconst (v := 1) C.1 C.2.1 dL_complain_13 (by decide) ?_
      exact kri C hP hS dL_complain_14
    · have hkc := (if_neg e0).symm.trans hkc
      by_cases e1 : k = 2
      · have hkc := (if_pos e1).symm.trans hkc
        cases hkc
        subst e1
        refine k_catch C K 2 (by decide) [⟨0, 9, 12, 15⟩] ⟨0, 9, 15, 21⟩ [] rfl (fun z hz => by cases List.mem_singleton.mp hz; exact ⟨by decide, 1, by decide, by decide, q464⟩) (by decide) (by decide) q652 hce hcv hcl ?_
        refine lv_astore_n (lv' := [(3, .ref q9), (0, .ref (wAd w 0)), (1, .int a1), (2, .ref (wAd w 108))]) C.1 C.2.1 dL_complain_15 rfl hl (by decide) rfl (fun ls hl => ?_)
        refine lv_iconst (v := 2) C.1 C.2.1 dL_complain_16 (by decide) ?_
        exact kri C hP hS dL_complain_17
      · have hkc := (if_neg e1).symm.trans hkc
        cases hkc
  · subst hok
    simp only [Sum.elim_inr] at hf
    cases hf
    refine lv_i2l (v := Int32.toInt64 r) C.1 C.2.1 dL_complain_7 rfl ?_
    refine k_last C hP hS dL_complain_8 (fun H locs hP hS => ?_)
    refine lv_goto (tgt := 18) C.1 C.2.1 dL_complain_9 (by decide) ?_
    refine lv_iconst (v := 0) C.1 C.2.1 dL_complain_18 (by decide) ?_
    exact kri C hP hS dL_complain_19
theorem dL_withdraw_0 : decode cL_withdraw 0 = .ok (.aload_n 2, 1) := by decide +kernel
theorem dL_withdraw_1 : decode cL_withdraw 1 = .ok (.iconst 0, 1) := by decide +kernel
theorem dL_withdraw_2 : decode cL_withdraw 2 = .ok (.aload_n 0, 1) := by decide +kernel
theorem dL_withdraw_3 : decode cL_withdraw 3 = .ok (.iload_n 1, 1) := by decide +kernel
theorem dL_withdraw_4 : decode cL_withdraw 4 = .ok (.invokevirtual 33, 3) := by decide +kernel
theorem dL_withdraw_7 : decode cL_withdraw 7 = .ok (.i2l, 1) := by decide +kernel
theorem dL_withdraw_8 : decode cL_withdraw 8 = .ok (.lastore, 1) := by decide +kernel
theorem dL_withdraw_9 : decode cL_withdraw 9 = .ok (.goto 6, 3) := by decide +kernel
theorem dL_withdraw_12 : decode cL_withdraw 12 = .ok (.astore_n 3, 1) := by decide +kernel
theorem dL_withdraw_13 : decode cL_withdraw 13 = .ok (.iconst 1, 1) := by decide +kernel
theorem dL_withdraw_14 : decode cL_withdraw 14 = .ok (.ireturn, 1) := by decide +kernel
theorem dL_withdraw_15 : decode cL_withdraw 15 = .ok (.iconst 0, 1) := by decide +kernel
theorem dL_withdraw_16 : decode cL_withdraw 16 = .ok (.ireturn, 1) := by decide +kernel
def cd_withdraw (u : Nat) : Option Int32 := if u = 0 then some 1 else none
def g_withdraw (a1 : Int32) (M : Mem) (L : Lng) : Option (Int32 × Mem × Lng) :=
  (f_X8_withdraw a1 M).bind fun o => Sum.elim (fun u => (cd_withdraw u.1).bind fun k => some (k, u.2, L)) (fun r => some (0, r.2, outL L (Int32.toInt64 r.1))) o
theorem hd_L_withdraw : yL_withdraw.cls ≠ "java/lang/invoke/MethodHandle" ∧ yL_withdraw.cls ≠ "java/lang/invoke/VarHandle" ∧ (parseMethodDescriptor yL_withdraw.desc).map (fun d => d.parameters.length) = some 3 := by decide +kernel
set_option maxHeartbeats 4000000 in
set_option maxRecDepth 100000 in
theorem c_L_withdraw (w : WT) (l : Launch) (hw : WOK w) (hfl : l.stackTraces = false) {a1 : Int32} {M : Mem} {L : Lng} {out : Int32 × Mem × Lng} (hf : g_withdraw a1 M L = some out) : Met l yL_withdraw (Cond.codeWith yL_withdraw cL_withdraw 4 (some .int) [(0, 9, 12, 13)] :: BG) ({ frames := 7, cells := 1, slots := 6, locals := 153 } : Room) (PREL w [.ref (wAd w 0), .int a1, .ref (wAd w 108)] M L) (QI w out.1 out.2.1 out.2.2) 1 6 (wA w) := by
  refine kEntW hw (by decide +kernel) rfl (Nat.le_of_ble_eq_true rfl) ?_
  intro p e s m args below meth c C K ls hl hP
  have hS : va_S (wA w) s.heap s.heap [] := va_S.rf
  have hl : lv_has ls 4 [(0, .ref (wAd w 0)), (1, .int a1), (2, .ref (wAd w 108))] := hl
  unfold g_withdraw at hf
  refine lv_aload_n C.1 C.2.1 dL_withdraw_0 rfl (lv_at hl 2 rfl) ?_
  refine lv_iconst (v := 0) C.1 C.2.1 dL_withdraw_1 (by decide) ?_
  refine lv_aload_n C.1 C.2.1 dL_withdraw_2 rfl (lv_at hl 0 rfl) ?_
  refine lv_iload_n C.1 C.2.1 dL_withdraw_3 rfl (lv_at hl 1 rfl) ?_
  obtain ⟨o, ho, hf⟩ := ob hf
  refine kxi (o := o) (kxV (As := [.int a1]) (rest := [.int 0, .ref (wAd w 108)]) C K.1 hl.1 hP hS (c_X8_withdraw w l C.2.2.2.2.2.2.2.2 hfl (L := L) ho) (gV q726 q727 q728 q1 q729) hd_X8_withdraw ⟨rfl, rfl⟩ ⟨Nat.le_of_ble_eq_true rfl, Nat.le_of_ble_eq_true rfl⟩ rfl rfl (Nat.le_of_ble_eq_true rfl) dL_withdraw_4 ⟨Nat.le_refl _, Nat.le_refl _⟩) hS (fun k M1 ce q9 H locs hok hk hP hS hce hcv hcl => ?_) (fun r M1 H locs hok hP hS => ?_)
  · subst hok
    simp only [Sum.elim_inl] at hf
    obtain ⟨kc, hkc, hf⟩ := ob hf
    cases hf
    unfold cd_withdraw at hkc
    by_cases e0 : k = 0
    · have hkc := (if_pos e0).symm.trans hkc
      cases hkc
      subst e0
      refine k_catch C K 0 (by decide) [] ⟨0, 9, 12, 13⟩ [] rfl (fun z hz => nomatch hz) (by decide) (by decide) q463 hce hcv hcl ?_
      refine lv_astore_n (lv' := [(3, .ref q9), (0, .ref (wAd w 0)), (1, .int a1), (2, .ref (wAd w 108))]) C.1 C.2.1 dL_withdraw_12 rfl hl (by decide) rfl (fun ls hl => ?_)
      refine lv_iconst (v := 1) C.1 C.2.1 dL_withdraw_13 (by decide) ?_
      exact kri C hP hS dL_withdraw_14
    · have hkc := (if_neg e0).symm.trans hkc
      cases hkc
  · subst hok
    simp only [Sum.elim_inr] at hf
    cases hf
    refine lv_i2l (v := Int32.toInt64 r) C.1 C.2.1 dL_withdraw_7 rfl ?_
    refine k_last C hP hS dL_withdraw_8 (fun H locs hP hS => ?_)
    refine lv_goto (tgt := 15) C.1 C.2.1 dL_withdraw_9 (by decide) ?_
    refine lv_iconst (v := 0) C.1 C.2.1 dL_withdraw_15 (by decide) ?_
    exact kri C hP hS dL_withdraw_16
theorem dL_append_0 : decode cL_append 0 = .ok (.aload_n 2, 1) := by decide +kernel
theorem dL_append_1 : decode cL_append 1 = .ok (.iconst 0, 1) := by decide +kernel
theorem dL_append_2 : decode cL_append 2 = .ok (.aload_n 0, 1) := by decide +kernel
theorem dL_append_3 : decode cL_append 3 = .ok (.iload_n 1, 1) := by decide +kernel
theorem dL_append_4 : decode cL_append 4 = .ok (.invokevirtual 36, 3) := by decide +kernel
theorem dL_append_7 : decode cL_append 7 = .ok (.i2l, 1) := by decide +kernel
theorem dL_append_8 : decode cL_append 8 = .ok (.lastore, 1) := by decide +kernel
theorem dL_append_9 : decode cL_append 9 = .ok (.goto 9, 3) := by decide +kernel
theorem dL_append_12 : decode cL_append 12 = .ok (.astore_n 3, 1) := by decide +kernel
theorem dL_append_13 : decode cL_append 13 = .ok (.iconst 1, 1) := by decide +kernel
theorem dL_append_14 : decode cL_append 14 = .ok (.ireturn, 1) := by decide +kernel
theorem dL_append_15 : decode cL_append 15 = .ok (.astore_n 3, 1) := by decide +kernel
theorem dL_append_16 : decode cL_append 16 = .ok (.iconst 2, 1) := by decide +kernel
theorem dL_append_17 : decode cL_append 17 = .ok (.ireturn, 1) := by decide +kernel
theorem dL_append_18 : decode cL_append 18 = .ok (.iconst 0, 1) := by decide +kernel
theorem dL_append_19 : decode cL_append 19 = .ok (.ireturn, 1) := by decide +kernel
def cd_append (u : Nat) : Option Int32 := if u = 1 then some 1 else if u = 2 then some 2 else none
def g_append (a1 : Int32) (M : Mem) (L : Lng) : Option (Int32 × Mem × Lng) :=
  (f_X8_append a1 M).bind fun o => Sum.elim (fun u => (cd_append u.1).bind fun k => some (k, u.2, L)) (fun r => some (0, r.2, outL L (Int32.toInt64 r.1))) o
theorem hd_L_append : yL_append.cls ≠ "java/lang/invoke/MethodHandle" ∧ yL_append.cls ≠ "java/lang/invoke/VarHandle" ∧ (parseMethodDescriptor yL_append.desc).map (fun d => d.parameters.length) = some 3 := by decide +kernel
set_option maxHeartbeats 4000000 in
set_option maxRecDepth 100000 in
theorem c_L_append (w : WT) (l : Launch) (hw : WOK w) (hfl : l.stackTraces = false) {a1 : Int32} {M : Mem} {L : Lng} {out : Int32 × Mem × Lng} (hf : g_append a1 M L = some out) : Met l yL_append (Cond.codeWith yL_append cL_append 4 (some .int) [(0, 9, 12, 15), (0, 9, 15, 21)] :: BG) ({ frames := 7, cells := 1, slots := 6, locals := 111 } : Room) (PREL w [.ref (wAd w 0), .int a1, .ref (wAd w 108)] M L) (QI w out.1 out.2.1 out.2.2) 1 6 (wA w) := by
  refine kEntW hw (by decide +kernel) rfl (Nat.le_of_ble_eq_true rfl) ?_
  intro p e s m args below meth c C K ls hl hP
  have hS : va_S (wA w) s.heap s.heap [] := va_S.rf
  have hl : lv_has ls 4 [(0, .ref (wAd w 0)), (1, .int a1), (2, .ref (wAd w 108))] := hl
  unfold g_append at hf
  refine lv_aload_n C.1 C.2.1 dL_append_0 rfl (lv_at hl 2 rfl) ?_
  refine lv_iconst (v := 0) C.1 C.2.1 dL_append_1 (by decide) ?_
  refine lv_aload_n C.1 C.2.1 dL_append_2 rfl (lv_at hl 0 rfl) ?_
  refine lv_iload_n C.1 C.2.1 dL_append_3 rfl (lv_at hl 1 rfl) ?_
  obtain ⟨o, ho, hf⟩ := ob hf
  refine kxi (o := o) (kxV (As := [.int a1]) (rest := [.int 0, .ref (wAd w 108)]) C K.1 hl.1 hP hS (c_X8_append w l C.2.2.2.2.2.2.2.2 hfl (L := L) ho) (gV q742 q743 q744 q1 q745) hd_X8_append ⟨rfl, rfl⟩ ⟨Nat.le_of_ble_eq_true rfl, Nat.le_of_ble_eq_true rfl⟩ rfl rfl (Nat.le_of_ble_eq_true rfl) dL_append_4 ⟨Nat.le_refl _, Nat.le_refl _⟩) hS (fun k M1 ce q9 H locs hok hk hP hS hce hcv hcl => ?_) (fun r M1 H locs hok hP hS => ?_)
  · subst hok
    simp only [Sum.elim_inl] at hf
    obtain ⟨kc, hkc, hf⟩ := ob hf
    cases hf
    unfold cd_append at hkc
    by_cases e0 : k = 1
    · have hkc := (if_pos e0).symm.trans hkc
      cases hkc
      subst e0
      refine k_catch C K 1 (by decide) [] ⟨0, 9, 12, 15⟩ [⟨0, 9, 15, 21⟩] rfl (fun z hz => nomatch hz) (by decide) (by decide) q464 hce hcv hcl ?_
      refine lv_astore_n (lv' := [(3, .ref q9), (0, .ref (wAd w 0)), (1, .int a1), (2, .ref (wAd w 108))]) C.1 C.2.1 dL_append_12 rfl hl (by decide) rfl (fun ls hl => ?_)
      refine lv_iconst (v := 1) C.1 C.2.1 dL_append_13 (by decide) ?_
      exact kri C hP hS dL_append_14
    · have hkc := (if_neg e0).symm.trans hkc
      by_cases e1 : k = 2
      · have hkc := (if_pos e1).symm.trans hkc
        cases hkc
        subst e1
        refine k_catch C K 2 (by decide) [⟨0, 9, 12, 15⟩] ⟨0, 9, 15, 21⟩ [] rfl (fun z hz => by cases List.mem_singleton.mp hz; exact ⟨by decide, 1, by decide, by decide, q464⟩) (by decide) (by decide) q652 hce hcv hcl ?_
        refine lv_astore_n (lv' := [(3, .ref q9), (0, .ref (wAd w 0)), (1, .int a1), (2, .ref (wAd w 108))]) C.1 C.2.1 dL_append_15 rfl hl (by decide) rfl (fun ls hl => ?_)
        refine lv_iconst (v := 2) C.1 C.2.1 dL_append_16 (by decide) ?_
        exact kri C hP hS dL_append_17
      · have hkc := (if_neg e1).symm.trans hkc
        cases hkc
  · subst hok
    simp only [Sum.elim_inr] at hf
    cases hf
    refine lv_i2l (v := Int32.toInt64 r) C.1 C.2.1 dL_append_7 rfl ?_
    refine k_last C hP hS dL_append_8 (fun H locs hP hS => ?_)
    refine lv_goto (tgt := 18) C.1 C.2.1 dL_append_9 (by decide) ?_
    refine lv_iconst (v := 0) C.1 C.2.1 dL_append_18 (by decide) ?_
    exact kri C hP hS dL_append_19
theorem dL_load_0 : decode cL_load 0 = .ok (.aload_n 1, 1) := by decide +kernel
theorem dL_load_1 : decode cL_load 1 = .ok (.iconst 0, 1) := by decide +kernel
theorem dL_load_2 : decode cL_load 2 = .ok (.aload_n 0, 1) := by decide +kernel
theorem dL_load_3 : decode cL_load 3 = .ok (.invokevirtual 39, 3) := by decide +kernel
theorem dL_load_6 : decode cL_load 6 = .ok (.i2l, 1) := by decide +kernel
theorem dL_load_7 : decode cL_load 7 = .ok (.lastore, 1) := by decide +kernel
theorem dL_load_8 : decode cL_load 8 = .ok (.goto 9, 3) := by decide +kernel
theorem dL_load_11 : decode cL_load 11 = .ok (.astore_n 2, 1) := by decide +kernel
theorem dL_load_12 : decode cL_load 12 = .ok (.iconst 1, 1) := by decide +kernel
theorem dL_load_13 : decode cL_load 13 = .ok (.ireturn, 1) := by decide +kernel
theorem dL_load_14 : decode cL_load 14 = .ok (.astore_n 2, 1) := by decide +kernel
theorem dL_load_15 : decode cL_load 15 = .ok (.iconst 2, 1) := by decide +kernel
theorem dL_load_16 : decode cL_load 16 = .ok (.ireturn, 1) := by decide +kernel
theorem dL_load_17 : decode cL_load 17 = .ok (.iconst 0, 1) := by decide +kernel
theorem dL_load_18 : decode cL_load 18 = .ok (.ireturn, 1) := by decide +kernel
def cd_load (u : Nat) : Option Int32 := if u = 1 then some 1 else if u = 2 then some 2 else none
def g_load (M : Mem) (L : Lng) : Option (Int32 × Mem × Lng) :=
  (f_X8_load M).bind fun o => Sum.elim (fun u => (cd_load u.1).bind fun k => some (k, u.2, L)) (fun r => some (0, r.2, outL L (Int32.toInt64 r.1))) o
theorem hd_L_load : yL_load.cls ≠ "java/lang/invoke/MethodHandle" ∧ yL_load.cls ≠ "java/lang/invoke/VarHandle" ∧ (parseMethodDescriptor yL_load.desc).map (fun d => d.parameters.length) = some 2 := by decide +kernel
set_option maxHeartbeats 4000000 in
set_option maxRecDepth 100000 in
theorem c_L_load (w : WT) (l : Launch) (hw : WOK w) (hfl : l.stackTraces = false) {M : Mem} {L : Lng} {out : Int32 × Mem × Lng} (hf : g_load M L = some out) : Met l yL_load (Cond.codeWith yL_load cL_load 3 (some .int) [(0, 8, 11, 15), (0, 8, 14, 21)] :: BG) ({ frames := 7, cells := 1, slots := 6, locals := 152 } : Room) (PREL w [.ref (wAd w 0), .ref (wAd w 108)] M L) (QI w out.1 out.2.1 out.2.2) 1 6 (wA w) := by
  refine kEntW hw (by decide +kernel) rfl (Nat.le_of_ble_eq_true rfl) ?_
  intro p e s m args below meth c C K ls hl hP
  have hS : va_S (wA w) s.heap s.heap [] := va_S.rf
  have hl : lv_has ls 3 [(0, .ref (wAd w 0)), (1, .ref (wAd w 108))] := hl
  unfold g_load at hf
  refine lv_aload_n C.1 C.2.1 dL_load_0 rfl (lv_at hl 1 rfl) ?_
  refine lv_iconst (v := 0) C.1 C.2.1 dL_load_1 (by decide) ?_
  refine lv_aload_n C.1 C.2.1 dL_load_2 rfl (lv_at hl 0 rfl) ?_
  obtain ⟨o, ho, hf⟩ := ob hf
  refine kxi (o := o) (kxV (As := []) (rest := [.int 0, .ref (wAd w 108)]) C K.1 hl.1 hP hS (c_X8_load w l C.2.2.2.2.2.2.2.2 hfl (L := L) ho) (gV q755 q756 q757 q1 q758) hd_X8_load ⟨rfl, rfl⟩ ⟨Nat.le_of_ble_eq_true rfl, Nat.le_of_ble_eq_true rfl⟩ rfl rfl (Nat.le_of_ble_eq_true rfl) dL_load_3 ⟨Nat.le_refl _, Nat.le_refl _⟩) hS (fun k M1 ce q9 H locs hok hk hP hS hce hcv hcl => ?_) (fun r M1 H locs hok hP hS => ?_)
  · subst hok
    simp only [Sum.elim_inl] at hf
    obtain ⟨kc, hkc, hf⟩ := ob hf
    cases hf
    unfold cd_load at hkc
    by_cases e0 : k = 1
    · have hkc := (if_pos e0).symm.trans hkc
      cases hkc
      subst e0
      refine k_catch C K 1 (by decide) [] ⟨0, 8, 11, 15⟩ [⟨0, 8, 14, 21⟩] rfl (fun z hz => nomatch hz) (by decide) (by decide) q464 hce hcv hcl ?_
      refine lv_astore_n (lv' := [(2, .ref q9), (0, .ref (wAd w 0)), (1, .ref (wAd w 108))]) C.1 C.2.1 dL_load_11 rfl hl (by decide) rfl (fun ls hl => ?_)
      refine lv_iconst (v := 1) C.1 C.2.1 dL_load_12 (by decide) ?_
      exact kri C hP hS dL_load_13
    · have hkc := (if_neg e0).symm.trans hkc
      by_cases e1 : k = 2
      · have hkc := (if_pos e1).symm.trans hkc
        cases hkc
        subst e1
        refine k_catch C K 2 (by decide) [⟨0, 8, 11, 15⟩] ⟨0, 8, 14, 21⟩ [] rfl (fun z hz => by cases List.mem_singleton.mp hz; exact ⟨by decide, 1, by decide, by decide, q464⟩) (by decide) (by decide) q652 hce hcv hcl ?_
        refine lv_astore_n (lv' := [(2, .ref q9), (0, .ref (wAd w 0)), (1, .ref (wAd w 108))]) C.1 C.2.1 dL_load_14 rfl hl (by decide) rfl (fun ls hl => ?_)
        refine lv_iconst (v := 2) C.1 C.2.1 dL_load_15 (by decide) ?_
        exact kri C hP hS dL_load_16
      · have hkc := (if_neg e1).symm.trans hkc
        cases hkc
  · subst hok
    simp only [Sum.elim_inr] at hf
    cases hf
    refine lv_i2l (v := Int32.toInt64 r) C.1 C.2.1 dL_load_6 rfl ?_
    refine k_last C hP hS dL_load_7 (fun H locs hP hS => ?_)
    refine lv_goto (tgt := 17) C.1 C.2.1 dL_load_8 (by decide) ?_
    refine lv_iconst (v := 0) C.1 C.2.1 dL_load_17 (by decide) ?_
    exact kri C hP hS dL_load_18
theorem dL_undo_0 : decode cL_undo 0 = .ok (.aload_n 1, 1) := by decide +kernel
theorem dL_undo_1 : decode cL_undo 1 = .ok (.iconst 0, 1) := by decide +kernel
theorem dL_undo_2 : decode cL_undo 2 = .ok (.aload_n 0, 1) := by decide +kernel
theorem dL_undo_3 : decode cL_undo 3 = .ok (.invokevirtual 43, 3) := by decide +kernel
theorem dL_undo_6 : decode cL_undo 6 = .ok (.i2l, 1) := by decide +kernel
theorem dL_undo_7 : decode cL_undo 7 = .ok (.lastore, 1) := by decide +kernel
theorem dL_undo_8 : decode cL_undo 8 = .ok (.goto 6, 3) := by decide +kernel
theorem dL_undo_11 : decode cL_undo 11 = .ok (.astore_n 2, 1) := by decide +kernel
theorem dL_undo_12 : decode cL_undo 12 = .ok (.iconst 1, 1) := by decide +kernel
theorem dL_undo_13 : decode cL_undo 13 = .ok (.ireturn, 1) := by decide +kernel
theorem dL_undo_14 : decode cL_undo 14 = .ok (.iconst 0, 1) := by decide +kernel
theorem dL_undo_15 : decode cL_undo 15 = .ok (.ireturn, 1) := by decide +kernel
def cd_undo (u : Nat) : Option Int32 := if u = 2 then some 1 else none
def g_undo (M : Mem) (L : Lng) : Option (Int32 × Mem × Lng) :=
  (f_X8_undo M).bind fun o => Sum.elim (fun u => (cd_undo u.1).bind fun k => some (k, u.2, L)) (fun r => some (0, r.2, outL L (Int32.toInt64 r.1))) o
theorem hd_L_undo : yL_undo.cls ≠ "java/lang/invoke/MethodHandle" ∧ yL_undo.cls ≠ "java/lang/invoke/VarHandle" ∧ (parseMethodDescriptor yL_undo.desc).map (fun d => d.parameters.length) = some 2 := by decide +kernel
set_option maxHeartbeats 4000000 in
set_option maxRecDepth 100000 in
theorem c_L_undo (w : WT) (l : Launch) (hw : WOK w) (hfl : l.stackTraces = false) {M : Mem} {L : Lng} {out : Int32 × Mem × Lng} (hf : g_undo M L = some out) : Met l yL_undo (Cond.codeWith yL_undo cL_undo 3 (some .int) [(0, 8, 11, 21)] :: BG) ({ frames := 7, cells := 1, slots := 6, locals := 151 } : Room) (PREL w [.ref (wAd w 0), .ref (wAd w 108)] M L) (QI w out.1 out.2.1 out.2.2) 1 6 (wA w) := by
  refine kEntW hw (by decide +kernel) rfl (Nat.le_of_ble_eq_true rfl) ?_
  intro p e s m args below meth c C K ls hl hP
  have hS : va_S (wA w) s.heap s.heap [] := va_S.rf
  have hl : lv_has ls 3 [(0, .ref (wAd w 0)), (1, .ref (wAd w 108))] := hl
  unfold g_undo at hf
  refine lv_aload_n C.1 C.2.1 dL_undo_0 rfl (lv_at hl 1 rfl) ?_
  refine lv_iconst (v := 0) C.1 C.2.1 dL_undo_1 (by decide) ?_
  refine lv_aload_n C.1 C.2.1 dL_undo_2 rfl (lv_at hl 0 rfl) ?_
  obtain ⟨o, ho, hf⟩ := ob hf
  refine kxi (o := o) (kxV (As := []) (rest := [.int 0, .ref (wAd w 108)]) C K.1 hl.1 hP hS (c_X8_undo w l C.2.2.2.2.2.2.2.2 hfl (L := L) ho) (gV q772 q773 q774 q1 q775) hd_X8_undo ⟨rfl, rfl⟩ ⟨Nat.le_of_ble_eq_true rfl, Nat.le_of_ble_eq_true rfl⟩ rfl rfl (Nat.le_of_ble_eq_true rfl) dL_undo_3 ⟨Nat.le_refl _, Nat.le_refl _⟩) hS (fun k M1 ce q9 H locs hok hk hP hS hce hcv hcl => ?_) (fun r M1 H locs hok hP hS => ?_)
  · subst hok
    simp only [Sum.elim_inl] at hf
    obtain ⟨kc, hkc, hf⟩ := ob hf
    cases hf
    unfold cd_undo at hkc
    by_cases e0 : k = 2
    · have hkc := (if_pos e0).symm.trans hkc
      cases hkc
      subst e0
      refine k_catch C K 2 (by decide) [] ⟨0, 8, 11, 21⟩ [] rfl (fun z hz => nomatch hz) (by decide) (by decide) q652 hce hcv hcl ?_
      refine lv_astore_n (lv' := [(2, .ref q9), (0, .ref (wAd w 0)), (1, .ref (wAd w 108))]) C.1 C.2.1 dL_undo_11 rfl hl (by decide) rfl (fun ls hl => ?_)
      refine lv_iconst (v := 1) C.1 C.2.1 dL_undo_12 (by decide) ?_
      exact kri C hP hS dL_undo_13
    · have hkc := (if_neg e0).symm.trans hkc
      cases hkc
  · subst hok
    simp only [Sum.elim_inr] at hf
    cases hf
    refine lv_i2l (v := Int32.toInt64 r) C.1 C.2.1 dL_undo_6 rfl ?_
    refine k_last C hP hS dL_undo_7 (fun H locs hP hS => ?_)
    refine lv_goto (tgt := 14) C.1 C.2.1 dL_undo_8 (by decide) ?_
    refine lv_iconst (v := 0) C.1 C.2.1 dL_undo_14 (by decide) ?_
    exact kri C hP hS dL_undo_15
theorem dL_minute_0 : decode cL_minute 0 = .ok (.aload_n 3, 1) := by decide +kernel
theorem dL_minute_1 : decode cL_minute 1 = .ok (.iconst 0, 1) := by decide +kernel
theorem dL_minute_2 : decode cL_minute 2 = .ok (.aload_n 0, 1) := by decide +kernel
theorem dL_minute_3 : decode cL_minute 3 = .ok (.iload_n 1, 1) := by decide +kernel
theorem dL_minute_4 : decode cL_minute 4 = .ok (.iload_n 2, 1) := by decide +kernel
theorem dL_minute_5 : decode cL_minute 5 = .ok (.invokevirtual 46, 3) := by decide +kernel
theorem dL_minute_8 : decode cL_minute 8 = .ok (.i2l, 1) := by decide +kernel
theorem dL_minute_9 : decode cL_minute 9 = .ok (.lastore, 1) := by decide +kernel
theorem dL_minute_10 : decode cL_minute 10 = .ok (.goto 11, 3) := by decide +kernel
theorem dL_minute_13 : decode cL_minute 13 = .ok (.astore 4, 2) := by decide +kernel
theorem dL_minute_15 : decode cL_minute 15 = .ok (.iconst 1, 1) := by decide +kernel
theorem dL_minute_16 : decode cL_minute 16 = .ok (.ireturn, 1) := by decide +kernel
theorem dL_minute_17 : decode cL_minute 17 = .ok (.astore 4, 2) := by decide +kernel
theorem dL_minute_19 : decode cL_minute 19 = .ok (.iconst 2, 1) := by decide +kernel
theorem dL_minute_20 : decode cL_minute 20 = .ok (.ireturn, 1) := by decide +kernel
theorem dL_minute_21 : decode cL_minute 21 = .ok (.iconst 0, 1) := by decide +kernel
theorem dL_minute_22 : decode cL_minute 22 = .ok (.ireturn, 1) := by decide +kernel
def cd_minute (u : Nat) : Option Int32 := if u = 0 then some 1 else if u = 1 then some 2 else none
def g_minute (a1 : Int32) (a2 : Int32) (M : Mem) (L : Lng) : Option (Int32 × Mem × Lng) :=
  (f_X8_minute a1 a2 M).bind fun o => Sum.elim (fun u => (cd_minute u).bind fun k => some (k, M, L)) (fun r => some (0, M, outL L (Int32.toInt64 r))) o
theorem hd_L_minute : yL_minute.cls ≠ "java/lang/invoke/MethodHandle" ∧ yL_minute.cls ≠ "java/lang/invoke/VarHandle" ∧ (parseMethodDescriptor yL_minute.desc).map (fun d => d.parameters.length) = some 4 := by decide +kernel
set_option maxHeartbeats 4000000 in
set_option maxRecDepth 100000 in
theorem c_L_minute (w : WT) (l : Launch) (hw : WOK w) (hfl : l.stackTraces = false) {a1 : Int32} {a2 : Int32} {M : Mem} {L : Lng} {out : Int32 × Mem × Lng} (hf : g_minute a1 a2 M L = some out) : Met l yL_minute (Cond.codeWith yL_minute cL_minute 5 (some .int) [(0, 10, 13, 13), (0, 10, 17, 15)] :: BG) ({ frames := 7, cells := 1, slots := 6, locals := 112 } : Room) (PREL w [.ref (wAd w 0), .int a1, .int a2, .ref (wAd w 108)] M L) (QI w out.1 out.2.1 out.2.2) 1 6 (wA w) := by
  refine kEntW hw (by decide +kernel) rfl (Nat.le_of_ble_eq_true rfl) ?_
  intro p e s m args below meth c C K ls hl hP
  have hS : va_S (wA w) s.heap s.heap [] := va_S.rf
  have hl : lv_has ls 5 [(0, .ref (wAd w 0)), (1, .int a1), (2, .int a2), (3, .ref (wAd w 108))] := hl
  unfold g_minute at hf
  refine lv_aload_n C.1 C.2.1 dL_minute_0 rfl (lv_at hl 3 rfl) ?_
  refine lv_iconst (v := 0) C.1 C.2.1 dL_minute_1 (by decide) ?_
  refine lv_aload_n C.1 C.2.1 dL_minute_2 rfl (lv_at hl 0 rfl) ?_
  refine lv_iload_n C.1 C.2.1 dL_minute_3 rfl (lv_at hl 1 rfl) ?_
  refine lv_iload_n C.1 C.2.1 dL_minute_4 rfl (lv_at hl 2 rfl) ?_
  obtain ⟨o, ho, hf⟩ := ob hf
  refine kxi (o := (xo o M)) (kxV (As := [.int a1, .int a2]) (rest := [.int 0, .ref (wAd w 108)]) C K.1 hl.1 hP hS (c_X8_minute w l C.2.2.2.2.2.2.2.2 hfl (L := L) ho) (gV q784 q785 q786 q1 q787) hd_X8_minute ⟨rfl, rfl⟩ ⟨Nat.le_of_ble_eq_true rfl, Nat.le_of_ble_eq_true rfl⟩ rfl rfl (Nat.le_of_ble_eq_true rfl) dL_minute_5 ⟨Nat.le_refl _, Nat.le_refl _⟩) hS (fun k M1 ce q9 H locs hok hk hP hS hce hcv hcl => ?_) (fun r M1 H locs hok hP hS => ?_)
  · cases o with
    | inr r => cases hok
    | inl u =>
      cases hok
      simp only [Sum.elim_inl] at hf
      obtain ⟨kc, hkc, hf⟩ := ob hf
      cases hf
      unfold cd_minute at hkc
      by_cases e0 : k = 0
      · have hkc := (if_pos e0).symm.trans hkc
        cases hkc
        subst e0
        refine k_catch C K 0 (by decide) [] ⟨0, 10, 13, 13⟩ [⟨0, 10, 17, 15⟩] rfl (fun z hz => nomatch hz) (by decide) (by decide) q463 hce hcv hcl ?_
        refine lv_astore (lv' := [(4, .ref q9), (0, .ref (wAd w 0)), (1, .int a1), (2, .int a2), (3, .ref (wAd w 108))]) C.1 C.2.1 dL_minute_13 hl (by decide) rfl (fun ls hl => ?_)
        refine lv_iconst (v := 1) C.1 C.2.1 dL_minute_15 (by decide) ?_
        exact kri C hP hS dL_minute_16
      · have hkc := (if_neg e0).symm.trans hkc
        by_cases e1 : k = 1
        · have hkc := (if_pos e1).symm.trans hkc
          cases hkc
          subst e1
          refine k_catch C K 1 (by decide) [⟨0, 10, 13, 13⟩] ⟨0, 10, 17, 15⟩ [] rfl (fun z hz => by cases List.mem_singleton.mp hz; exact ⟨by decide, 0, by decide, by decide, q463⟩) (by decide) (by decide) q464 hce hcv hcl ?_
          refine lv_astore (lv' := [(4, .ref q9), (0, .ref (wAd w 0)), (1, .int a1), (2, .int a2), (3, .ref (wAd w 108))]) C.1 C.2.1 dL_minute_17 hl (by decide) rfl (fun ls hl => ?_)
          refine lv_iconst (v := 2) C.1 C.2.1 dL_minute_19 (by decide) ?_
          exact kri C hP hS dL_minute_20
        · have hkc := (if_neg e1).symm.trans hkc
          cases hkc
  · cases o with
    | inl u => cases hok
    | inr u =>
      cases hok
      simp only [Sum.elim_inr] at hf
      cases hf
      refine lv_i2l (v := Int32.toInt64 r) C.1 C.2.1 dL_minute_8 rfl ?_
      refine k_last C hP hS dL_minute_9 (fun H locs hP hS => ?_)
      refine lv_goto (tgt := 21) C.1 C.2.1 dL_minute_10 (by decide) ?_
      refine lv_iconst (v := 0) C.1 C.2.1 dL_minute_21 (by decide) ?_
      exact kri C hP hS dL_minute_22
theorem dL_exceedance_0 : decode cL_exceedance 0 = .ok (.aload_n 3, 1) := by decide +kernel
theorem dL_exceedance_1 : decode cL_exceedance 1 = .ok (.iconst 0, 1) := by decide +kernel
theorem dL_exceedance_2 : decode cL_exceedance 2 = .ok (.aload_n 0, 1) := by decide +kernel
theorem dL_exceedance_3 : decode cL_exceedance 3 = .ok (.iload_n 1, 1) := by decide +kernel
theorem dL_exceedance_4 : decode cL_exceedance 4 = .ok (.iload_n 2, 1) := by decide +kernel
theorem dL_exceedance_5 : decode cL_exceedance 5 = .ok (.invokevirtual 49, 3) := by decide +kernel
theorem dL_exceedance_8 : decode cL_exceedance 8 = .ok (.i2l, 1) := by decide +kernel
theorem dL_exceedance_9 : decode cL_exceedance 9 = .ok (.lastore, 1) := by decide +kernel
theorem dL_exceedance_10 : decode cL_exceedance 10 = .ok (.goto 11, 3) := by decide +kernel
theorem dL_exceedance_13 : decode cL_exceedance 13 = .ok (.astore 4, 2) := by decide +kernel
theorem dL_exceedance_15 : decode cL_exceedance 15 = .ok (.iconst 1, 1) := by decide +kernel
theorem dL_exceedance_16 : decode cL_exceedance 16 = .ok (.ireturn, 1) := by decide +kernel
theorem dL_exceedance_17 : decode cL_exceedance 17 = .ok (.astore 4, 2) := by decide +kernel
theorem dL_exceedance_19 : decode cL_exceedance 19 = .ok (.iconst 2, 1) := by decide +kernel
theorem dL_exceedance_20 : decode cL_exceedance 20 = .ok (.ireturn, 1) := by decide +kernel
theorem dL_exceedance_21 : decode cL_exceedance 21 = .ok (.iconst 0, 1) := by decide +kernel
theorem dL_exceedance_22 : decode cL_exceedance 22 = .ok (.ireturn, 1) := by decide +kernel
def cd_exceedance (u : Nat) : Option Int32 := if u = 0 then some 1 else if u = 1 then some 2 else none
def g_exceedance (a1 : Int32) (a2 : Int32) (M : Mem) (L : Lng) : Option (Int32 × Mem × Lng) :=
  (f_X8_exceedance a1 a2 M).bind fun o => Sum.elim (fun u => (cd_exceedance u).bind fun k => some (k, M, L)) (fun r => some (0, M, outL L (Int32.toInt64 r))) o
theorem hd_L_exceedance : yL_exceedance.cls ≠ "java/lang/invoke/MethodHandle" ∧ yL_exceedance.cls ≠ "java/lang/invoke/VarHandle" ∧ (parseMethodDescriptor yL_exceedance.desc).map (fun d => d.parameters.length) = some 4 := by decide +kernel
set_option maxHeartbeats 4000000 in
set_option maxRecDepth 100000 in
theorem c_L_exceedance (w : WT) (l : Launch) (hw : WOK w) (hfl : l.stackTraces = false) {a1 : Int32} {a2 : Int32} {M : Mem} {L : Lng} {out : Int32 × Mem × Lng} (hf : g_exceedance a1 a2 M L = some out) : Met l yL_exceedance (Cond.codeWith yL_exceedance cL_exceedance 5 (some .int) [(0, 10, 13, 13), (0, 10, 17, 15)] :: BG) ({ frames := 7, cells := 1, slots := 6, locals := 112 } : Room) (PREL w [.ref (wAd w 0), .int a1, .int a2, .ref (wAd w 108)] M L) (QI w out.1 out.2.1 out.2.2) 1 6 (wA w) := by
  refine kEntW hw (by decide +kernel) rfl (Nat.le_of_ble_eq_true rfl) ?_
  intro p e s m args below meth c C K ls hl hP
  have hS : va_S (wA w) s.heap s.heap [] := va_S.rf
  have hl : lv_has ls 5 [(0, .ref (wAd w 0)), (1, .int a1), (2, .int a2), (3, .ref (wAd w 108))] := hl
  unfold g_exceedance at hf
  refine lv_aload_n C.1 C.2.1 dL_exceedance_0 rfl (lv_at hl 3 rfl) ?_
  refine lv_iconst (v := 0) C.1 C.2.1 dL_exceedance_1 (by decide) ?_
  refine lv_aload_n C.1 C.2.1 dL_exceedance_2 rfl (lv_at hl 0 rfl) ?_
  refine lv_iload_n C.1 C.2.1 dL_exceedance_3 rfl (lv_at hl 1 rfl) ?_
  refine lv_iload_n C.1 C.2.1 dL_exceedance_4 rfl (lv_at hl 2 rfl) ?_
  obtain ⟨o, ho, hf⟩ := ob hf
  refine kxi (o := (xo o M)) (kxV (As := [.int a1, .int a2]) (rest := [.int 0, .ref (wAd w 108)]) C K.1 hl.1 hP hS (c_X8_exceedance w l C.2.2.2.2.2.2.2.2 hfl (L := L) ho) (gV q792 q793 q794 q1 q795) hd_X8_exceedance ⟨rfl, rfl⟩ ⟨Nat.le_of_ble_eq_true rfl, Nat.le_of_ble_eq_true rfl⟩ rfl rfl (Nat.le_of_ble_eq_true rfl) dL_exceedance_5 ⟨Nat.le_refl _, Nat.le_refl _⟩) hS (fun k M1 ce q9 H locs hok hk hP hS hce hcv hcl => ?_) (fun r M1 H locs hok hP hS => ?_)
  · cases o with
    | inr r => cases hok
    | inl u =>
      cases hok
      simp only [Sum.elim_inl] at hf
      obtain ⟨kc, hkc, hf⟩ := ob hf
      cases hf
      unfold cd_exceedance at hkc
      by_cases e0 : k = 0
      · have hkc := (if_pos e0).symm.trans hkc
        cases hkc
        subst e0
        refine k_catch C K 0 (by decide) [] ⟨0, 10, 13, 13⟩ [⟨0, 10, 17, 15⟩] rfl (fun z hz => nomatch hz) (by decide) (by decide) q463 hce hcv hcl ?_
        refine lv_astore (lv' := [(4, .ref q9), (0, .ref (wAd w 0)), (1, .int a1), (2, .int a2), (3, .ref (wAd w 108))]) C.1 C.2.1 dL_exceedance_13 hl (by decide) rfl (fun ls hl => ?_)
        refine lv_iconst (v := 1) C.1 C.2.1 dL_exceedance_15 (by decide) ?_
        exact kri C hP hS dL_exceedance_16
      · have hkc := (if_neg e0).symm.trans hkc
        by_cases e1 : k = 1
        · have hkc := (if_pos e1).symm.trans hkc
          cases hkc
          subst e1
          refine k_catch C K 1 (by decide) [⟨0, 10, 13, 13⟩] ⟨0, 10, 17, 15⟩ [] rfl (fun z hz => by cases List.mem_singleton.mp hz; exact ⟨by decide, 0, by decide, by decide, q463⟩) (by decide) (by decide) q464 hce hcv hcl ?_
          refine lv_astore (lv' := [(4, .ref q9), (0, .ref (wAd w 0)), (1, .int a1), (2, .int a2), (3, .ref (wAd w 108))]) C.1 C.2.1 dL_exceedance_17 hl (by decide) rfl (fun ls hl => ?_)
          refine lv_iconst (v := 2) C.1 C.2.1 dL_exceedance_19 (by decide) ?_
          exact kri C hP hS dL_exceedance_20
        · have hkc := (if_neg e1).symm.trans hkc
          cases hkc
  · cases o with
    | inl u => cases hok
    | inr u =>
      cases hok
      simp only [Sum.elim_inr] at hf
      cases hf
      refine lv_i2l (v := Int32.toInt64 r) C.1 C.2.1 dL_exceedance_8 rfl ?_
      refine k_last C hP hS dL_exceedance_9 (fun H locs hP hS => ?_)
      refine lv_goto (tgt := 21) C.1 C.2.1 dL_exceedance_10 (by decide) ?_
      refine lv_iconst (v := 0) C.1 C.2.1 dL_exceedance_21 (by decide) ?_
      exact kri C hP hS dL_exceedance_22
theorem dL_complaint_0 : decode cL_complaint 0 = .ok (.aload_n 3, 1) := by decide +kernel
theorem dL_complaint_1 : decode cL_complaint 1 = .ok (.iconst 0, 1) := by decide +kernel
theorem dL_complaint_2 : decode cL_complaint 2 = .ok (.aload_n 0, 1) := by decide +kernel
theorem dL_complaint_3 : decode cL_complaint 3 = .ok (.iload_n 1, 1) := by decide +kernel
theorem dL_complaint_4 : decode cL_complaint 4 = .ok (.iload_n 2, 1) := by decide +kernel
theorem dL_complaint_5 : decode cL_complaint 5 = .ok (.invokevirtual 52, 3) := by decide +kernel
theorem dL_complaint_8 : decode cL_complaint 8 = .ok (.i2l, 1) := by decide +kernel
theorem dL_complaint_9 : decode cL_complaint 9 = .ok (.lastore, 1) := by decide +kernel
theorem dL_complaint_10 : decode cL_complaint 10 = .ok (.goto 11, 3) := by decide +kernel
theorem dL_complaint_13 : decode cL_complaint 13 = .ok (.astore 4, 2) := by decide +kernel
theorem dL_complaint_15 : decode cL_complaint 15 = .ok (.iconst 1, 1) := by decide +kernel
theorem dL_complaint_16 : decode cL_complaint 16 = .ok (.ireturn, 1) := by decide +kernel
theorem dL_complaint_17 : decode cL_complaint 17 = .ok (.astore 4, 2) := by decide +kernel
theorem dL_complaint_19 : decode cL_complaint 19 = .ok (.iconst 2, 1) := by decide +kernel
theorem dL_complaint_20 : decode cL_complaint 20 = .ok (.ireturn, 1) := by decide +kernel
theorem dL_complaint_21 : decode cL_complaint 21 = .ok (.iconst 0, 1) := by decide +kernel
theorem dL_complaint_22 : decode cL_complaint 22 = .ok (.ireturn, 1) := by decide +kernel
def cd_complaint (u : Nat) : Option Int32 := if u = 0 then some 1 else if u = 1 then some 2 else none
def g_complaint (a1 : Int32) (a2 : Int32) (M : Mem) (L : Lng) : Option (Int32 × Mem × Lng) :=
  (f_X8_complaint a1 a2 M).bind fun o => Sum.elim (fun u => (cd_complaint u).bind fun k => some (k, M, L)) (fun r => some (0, M, outL L (Int32.toInt64 r))) o
theorem hd_L_complaint : yL_complaint.cls ≠ "java/lang/invoke/MethodHandle" ∧ yL_complaint.cls ≠ "java/lang/invoke/VarHandle" ∧ (parseMethodDescriptor yL_complaint.desc).map (fun d => d.parameters.length) = some 4 := by decide +kernel
set_option maxHeartbeats 4000000 in
set_option maxRecDepth 100000 in
theorem c_L_complaint (w : WT) (l : Launch) (hw : WOK w) (hfl : l.stackTraces = false) {a1 : Int32} {a2 : Int32} {M : Mem} {L : Lng} {out : Int32 × Mem × Lng} (hf : g_complaint a1 a2 M L = some out) : Met l yL_complaint (Cond.codeWith yL_complaint cL_complaint 5 (some .int) [(0, 10, 13, 13), (0, 10, 17, 15)] :: BG) ({ frames := 7, cells := 1, slots := 6, locals := 112 } : Room) (PREL w [.ref (wAd w 0), .int a1, .int a2, .ref (wAd w 108)] M L) (QI w out.1 out.2.1 out.2.2) 1 6 (wA w) := by
  refine kEntW hw (by decide +kernel) rfl (Nat.le_of_ble_eq_true rfl) ?_
  intro p e s m args below meth c C K ls hl hP
  have hS : va_S (wA w) s.heap s.heap [] := va_S.rf
  have hl : lv_has ls 5 [(0, .ref (wAd w 0)), (1, .int a1), (2, .int a2), (3, .ref (wAd w 108))] := hl
  unfold g_complaint at hf
  refine lv_aload_n C.1 C.2.1 dL_complaint_0 rfl (lv_at hl 3 rfl) ?_
  refine lv_iconst (v := 0) C.1 C.2.1 dL_complaint_1 (by decide) ?_
  refine lv_aload_n C.1 C.2.1 dL_complaint_2 rfl (lv_at hl 0 rfl) ?_
  refine lv_iload_n C.1 C.2.1 dL_complaint_3 rfl (lv_at hl 1 rfl) ?_
  refine lv_iload_n C.1 C.2.1 dL_complaint_4 rfl (lv_at hl 2 rfl) ?_
  obtain ⟨o, ho, hf⟩ := ob hf
  refine kxi (o := (xo o M)) (kxV (As := [.int a1, .int a2]) (rest := [.int 0, .ref (wAd w 108)]) C K.1 hl.1 hP hS (c_X8_complaint w l C.2.2.2.2.2.2.2.2 hfl (L := L) ho) (gV q800 q801 q802 q1 q803) hd_X8_complaint ⟨rfl, rfl⟩ ⟨Nat.le_of_ble_eq_true rfl, Nat.le_of_ble_eq_true rfl⟩ rfl rfl (Nat.le_of_ble_eq_true rfl) dL_complaint_5 ⟨Nat.le_refl _, Nat.le_refl _⟩) hS (fun k M1 ce q9 H locs hok hk hP hS hce hcv hcl => ?_) (fun r M1 H locs hok hP hS => ?_)
  · cases o with
    | inr r => cases hok
    | inl u =>
      cases hok
      simp only [Sum.elim_inl] at hf
      obtain ⟨kc, hkc, hf⟩ := ob hf
      cases hf
      unfold cd_complaint at hkc
      by_cases e0 : k = 0
      · have hkc := (if_pos e0).symm.trans hkc
        cases hkc
        subst e0
        refine k_catch C K 0 (by decide) [] ⟨0, 10, 13, 13⟩ [⟨0, 10, 17, 15⟩] rfl (fun z hz => nomatch hz) (by decide) (by decide) q463 hce hcv hcl ?_
        refine lv_astore (lv' := [(4, .ref q9), (0, .ref (wAd w 0)), (1, .int a1), (2, .int a2), (3, .ref (wAd w 108))]) C.1 C.2.1 dL_complaint_13 hl (by decide) rfl (fun ls hl => ?_)
        refine lv_iconst (v := 1) C.1 C.2.1 dL_complaint_15 (by decide) ?_
        exact kri C hP hS dL_complaint_16
      · have hkc := (if_neg e0).symm.trans hkc
        by_cases e1 : k = 1
        · have hkc := (if_pos e1).symm.trans hkc
          cases hkc
          subst e1
          refine k_catch C K 1 (by decide) [⟨0, 10, 13, 13⟩] ⟨0, 10, 17, 15⟩ [] rfl (fun z hz => by cases List.mem_singleton.mp hz; exact ⟨by decide, 0, by decide, by decide, q463⟩) (by decide) (by decide) q464 hce hcv hcl ?_
          refine lv_astore (lv' := [(4, .ref q9), (0, .ref (wAd w 0)), (1, .int a1), (2, .int a2), (3, .ref (wAd w 108))]) C.1 C.2.1 dL_complaint_17 hl (by decide) rfl (fun ls hl => ?_)
          refine lv_iconst (v := 2) C.1 C.2.1 dL_complaint_19 (by decide) ?_
          exact kri C hP hS dL_complaint_20
        · have hkc := (if_neg e1).symm.trans hkc
          cases hkc
  · cases o with
    | inl u => cases hok
    | inr u =>
      cases hok
      simp only [Sum.elim_inr] at hf
      cases hf
      refine lv_i2l (v := Int32.toInt64 r) C.1 C.2.1 dL_complaint_8 rfl ?_
      refine k_last C hP hS dL_complaint_9 (fun H locs hP hS => ?_)
      refine lv_goto (tgt := 21) C.1 C.2.1 dL_complaint_10 (by decide) ?_
      refine lv_iconst (v := 0) C.1 C.2.1 dL_complaint_21 (by decide) ?_
      exact kri C hP hS dL_complaint_22
theorem dL_levelCount_0 : decode cL_levelCount 0 = .ok (.aload_n 2, 1) := by decide +kernel
theorem dL_levelCount_1 : decode cL_levelCount 1 = .ok (.iconst 0, 1) := by decide +kernel
theorem dL_levelCount_2 : decode cL_levelCount 2 = .ok (.aload_n 0, 1) := by decide +kernel
theorem dL_levelCount_3 : decode cL_levelCount 3 = .ok (.iload_n 1, 1) := by decide +kernel
theorem dL_levelCount_4 : decode cL_levelCount 4 = .ok (.invokevirtual 55, 3) := by decide +kernel
theorem dL_levelCount_7 : decode cL_levelCount 7 = .ok (.i2l, 1) := by decide +kernel
theorem dL_levelCount_8 : decode cL_levelCount 8 = .ok (.lastore, 1) := by decide +kernel
theorem dL_levelCount_9 : decode cL_levelCount 9 = .ok (.goto 6, 3) := by decide +kernel
theorem dL_levelCount_12 : decode cL_levelCount 12 = .ok (.astore_n 3, 1) := by decide +kernel
theorem dL_levelCount_13 : decode cL_levelCount 13 = .ok (.iconst 1, 1) := by decide +kernel
theorem dL_levelCount_14 : decode cL_levelCount 14 = .ok (.ireturn, 1) := by decide +kernel
theorem dL_levelCount_15 : decode cL_levelCount 15 = .ok (.iconst 0, 1) := by decide +kernel
theorem dL_levelCount_16 : decode cL_levelCount 16 = .ok (.ireturn, 1) := by decide +kernel
def cd_levelCount (u : Nat) : Option Int32 := if u = 1 then some 1 else none
def g_levelCount (a1 : Int32) (M : Mem) (L : Lng) : Option (Int32 × Mem × Lng) :=
  (f_X8_levelCount a1 M).bind fun o => Sum.elim (fun u => (cd_levelCount u).bind fun k => some (k, M, L)) (fun r => some (0, M, outL L (Int32.toInt64 r))) o
theorem hd_L_levelCount : yL_levelCount.cls ≠ "java/lang/invoke/MethodHandle" ∧ yL_levelCount.cls ≠ "java/lang/invoke/VarHandle" ∧ (parseMethodDescriptor yL_levelCount.desc).map (fun d => d.parameters.length) = some 3 := by decide +kernel
set_option maxHeartbeats 4000000 in
set_option maxRecDepth 100000 in
theorem c_L_levelCount (w : WT) (l : Launch) (hw : WOK w) (hfl : l.stackTraces = false) {a1 : Int32} {M : Mem} {L : Lng} {out : Int32 × Mem × Lng} (hf : g_levelCount a1 M L = some out) : Met l yL_levelCount (Cond.codeWith yL_levelCount cL_levelCount 4 (some .int) [(0, 9, 12, 15)] :: BG) ({ frames := 7, cells := 1, slots := 6, locals := 111 } : Room) (PREL w [.ref (wAd w 0), .int a1, .ref (wAd w 108)] M L) (QI w out.1 out.2.1 out.2.2) 1 6 (wA w) := by
  refine kEntW hw (by decide +kernel) rfl (Nat.le_of_ble_eq_true rfl) ?_
  intro p e s m args below meth c C K ls hl hP
  have hS : va_S (wA w) s.heap s.heap [] := va_S.rf
  have hl : lv_has ls 4 [(0, .ref (wAd w 0)), (1, .int a1), (2, .ref (wAd w 108))] := hl
  unfold g_levelCount at hf
  refine lv_aload_n C.1 C.2.1 dL_levelCount_0 rfl (lv_at hl 2 rfl) ?_
  refine lv_iconst (v := 0) C.1 C.2.1 dL_levelCount_1 (by decide) ?_
  refine lv_aload_n C.1 C.2.1 dL_levelCount_2 rfl (lv_at hl 0 rfl) ?_
  refine lv_iload_n C.1 C.2.1 dL_levelCount_3 rfl (lv_at hl 1 rfl) ?_
  obtain ⟨o, ho, hf⟩ := ob hf
  refine kxi (o := (xo o M)) (kxV (As := [.int a1]) (rest := [.int 0, .ref (wAd w 108)]) C K.1 hl.1 hP hS (c_X8_levelCount w l C.2.2.2.2.2.2.2.2 hfl (L := L) ho) (gV q807 q808 q809 q1 q810) hd_X8_levelCount ⟨rfl, rfl⟩ ⟨Nat.le_of_ble_eq_true rfl, Nat.le_of_ble_eq_true rfl⟩ rfl rfl (Nat.le_of_ble_eq_true rfl) dL_levelCount_4 ⟨Nat.le_refl _, Nat.le_refl _⟩) hS (fun k M1 ce q9 H locs hok hk hP hS hce hcv hcl => ?_) (fun r M1 H locs hok hP hS => ?_)
  · cases o with
    | inr r => cases hok
    | inl u =>
      cases hok
      simp only [Sum.elim_inl] at hf
      obtain ⟨kc, hkc, hf⟩ := ob hf
      cases hf
      unfold cd_levelCount at hkc
      by_cases e0 : k = 1
      · have hkc := (if_pos e0).symm.trans hkc
        cases hkc
        subst e0
        refine k_catch C K 1 (by decide) [] ⟨0, 9, 12, 15⟩ [] rfl (fun z hz => nomatch hz) (by decide) (by decide) q464 hce hcv hcl ?_
        refine lv_astore_n (lv' := [(3, .ref q9), (0, .ref (wAd w 0)), (1, .int a1), (2, .ref (wAd w 108))]) C.1 C.2.1 dL_levelCount_12 rfl hl (by decide) rfl (fun ls hl => ?_)
        refine lv_iconst (v := 1) C.1 C.2.1 dL_levelCount_13 (by decide) ?_
        exact kri C hP hS dL_levelCount_14
      · have hkc := (if_neg e0).symm.trans hkc
        cases hkc
  · cases o with
    | inl u => cases hok
    | inr u =>
      cases hok
      simp only [Sum.elim_inr] at hf
      cases hf
      refine lv_i2l (v := Int32.toInt64 r) C.1 C.2.1 dL_levelCount_7 rfl ?_
      refine k_last C hP hS dL_levelCount_8 (fun H locs hP hS => ?_)
      refine lv_goto (tgt := 15) C.1 C.2.1 dL_levelCount_9 (by decide) ?_
      refine lv_iconst (v := 0) C.1 C.2.1 dL_levelCount_15 (by decide) ?_
      exact kri C hP hS dL_levelCount_16
theorem dL_percentLevel_0 : decode cL_percentLevel 0 = .ok (.aload_n 2, 1) := by decide +kernel
theorem dL_percentLevel_1 : decode cL_percentLevel 1 = .ok (.iconst 0, 1) := by decide +kernel
theorem dL_percentLevel_2 : decode cL_percentLevel 2 = .ok (.aload_n 0, 1) := by decide +kernel
theorem dL_percentLevel_3 : decode cL_percentLevel 3 = .ok (.iload_n 1, 1) := by decide +kernel
theorem dL_percentLevel_4 : decode cL_percentLevel 4 = .ok (.invokevirtual 58, 3) := by decide +kernel
theorem dL_percentLevel_7 : decode cL_percentLevel 7 = .ok (.i2l, 1) := by decide +kernel
theorem dL_percentLevel_8 : decode cL_percentLevel 8 = .ok (.lastore, 1) := by decide +kernel
theorem dL_percentLevel_9 : decode cL_percentLevel 9 = .ok (.goto 6, 3) := by decide +kernel
theorem dL_percentLevel_12 : decode cL_percentLevel 12 = .ok (.astore_n 3, 1) := by decide +kernel
theorem dL_percentLevel_13 : decode cL_percentLevel 13 = .ok (.iconst 1, 1) := by decide +kernel
theorem dL_percentLevel_14 : decode cL_percentLevel 14 = .ok (.ireturn, 1) := by decide +kernel
theorem dL_percentLevel_15 : decode cL_percentLevel 15 = .ok (.iconst 0, 1) := by decide +kernel
theorem dL_percentLevel_16 : decode cL_percentLevel 16 = .ok (.ireturn, 1) := by decide +kernel
def cd_percentLevel (u : Nat) : Option Int32 := if u = 1 then some 1 else none
def g_percentLevel (a1 : Int32) (M : Mem) (L : Lng) : Option (Int32 × Mem × Lng) :=
  (f_X8_percentLevel a1 M).bind fun o => Sum.elim (fun u => (cd_percentLevel u).bind fun k => some (k, M, L)) (fun r => some (0, M, outL L (Int32.toInt64 r))) o
theorem hd_L_percentLevel : yL_percentLevel.cls ≠ "java/lang/invoke/MethodHandle" ∧ yL_percentLevel.cls ≠ "java/lang/invoke/VarHandle" ∧ (parseMethodDescriptor yL_percentLevel.desc).map (fun d => d.parameters.length) = some 3 := by decide +kernel
set_option maxHeartbeats 4000000 in
set_option maxRecDepth 100000 in
theorem c_L_percentLevel (w : WT) (l : Launch) (hw : WOK w) (hfl : l.stackTraces = false) {a1 : Int32} {M : Mem} {L : Lng} {out : Int32 × Mem × Lng} (hf : g_percentLevel a1 M L = some out) : Met l yL_percentLevel (Cond.codeWith yL_percentLevel cL_percentLevel 4 (some .int) [(0, 9, 12, 15)] :: BG) ({ frames := 7, cells := 1, slots := 6, locals := 111 } : Room) (PREL w [.ref (wAd w 0), .int a1, .ref (wAd w 108)] M L) (QI w out.1 out.2.1 out.2.2) 1 6 (wA w) := by
  refine kEntW hw (by decide +kernel) rfl (Nat.le_of_ble_eq_true rfl) ?_
  intro p e s m args below meth c C K ls hl hP
  have hS : va_S (wA w) s.heap s.heap [] := va_S.rf
  have hl : lv_has ls 4 [(0, .ref (wAd w 0)), (1, .int a1), (2, .ref (wAd w 108))] := hl
  unfold g_percentLevel at hf
  refine lv_aload_n C.1 C.2.1 dL_percentLevel_0 rfl (lv_at hl 2 rfl) ?_
  refine lv_iconst (v := 0) C.1 C.2.1 dL_percentLevel_1 (by decide) ?_
  refine lv_aload_n C.1 C.2.1 dL_percentLevel_2 rfl (lv_at hl 0 rfl) ?_
  refine lv_iload_n C.1 C.2.1 dL_percentLevel_3 rfl (lv_at hl 1 rfl) ?_
  obtain ⟨o, ho, hf⟩ := ob hf
  refine kxi (o := (xo o M)) (kxV (As := [.int a1]) (rest := [.int 0, .ref (wAd w 108)]) C K.1 hl.1 hP hS (c_X8_percentLevel w l C.2.2.2.2.2.2.2.2 hfl (L := L) ho) (gV q815 q816 q817 q1 q818) hd_X8_percentLevel ⟨rfl, rfl⟩ ⟨Nat.le_of_ble_eq_true rfl, Nat.le_of_ble_eq_true rfl⟩ rfl rfl (Nat.le_of_ble_eq_true rfl) dL_percentLevel_4 ⟨Nat.le_refl _, Nat.le_refl _⟩) hS (fun k M1 ce q9 H locs hok hk hP hS hce hcv hcl => ?_) (fun r M1 H locs hok hP hS => ?_)
  · cases o with
    | inr r => cases hok
    | inl u =>
      cases hok
      simp only [Sum.elim_inl] at hf
      obtain ⟨kc, hkc, hf⟩ := ob hf
      cases hf
      unfold cd_percentLevel at hkc
      by_cases e0 : k = 1
      · have hkc := (if_pos e0).symm.trans hkc
        cases hkc
        subst e0
        refine k_catch C K 1 (by decide) [] ⟨0, 9, 12, 15⟩ [] rfl (fun z hz => nomatch hz) (by decide) (by decide) q464 hce hcv hcl ?_
        refine lv_astore_n (lv' := [(3, .ref q9), (0, .ref (wAd w 0)), (1, .int a1), (2, .ref (wAd w 108))]) C.1 C.2.1 dL_percentLevel_12 rfl hl (by decide) rfl (fun ls hl => ?_)
        refine lv_iconst (v := 1) C.1 C.2.1 dL_percentLevel_13 (by decide) ?_
        exact kri C hP hS dL_percentLevel_14
      · have hkc := (if_neg e0).symm.trans hkc
        cases hkc
  · cases o with
    | inl u => cases hok
    | inr u =>
      cases hok
      simp only [Sum.elim_inr] at hf
      cases hf
      refine lv_i2l (v := Int32.toInt64 r) C.1 C.2.1 dL_percentLevel_7 rfl ?_
      refine k_last C hP hS dL_percentLevel_8 (fun H locs hP hS => ?_)
      refine lv_goto (tgt := 15) C.1 C.2.1 dL_percentLevel_9 (by decide) ?_
      refine lv_iconst (v := 0) C.1 C.2.1 dL_percentLevel_15 (by decide) ?_
      exact kri C hP hS dL_percentLevel_16
theorem dL_count_0 : decode cL_count 0 = .ok (.aload_n 2, 1) := by decide +kernel
theorem dL_count_1 : decode cL_count 1 = .ok (.iconst 0, 1) := by decide +kernel
theorem dL_count_2 : decode cL_count 2 = .ok (.aload_n 0, 1) := by decide +kernel
theorem dL_count_3 : decode cL_count 3 = .ok (.iload_n 1, 1) := by decide +kernel
theorem dL_count_4 : decode cL_count 4 = .ok (.invokevirtual 61, 3) := by decide +kernel
theorem dL_count_7 : decode cL_count 7 = .ok (.i2l, 1) := by decide +kernel
theorem dL_count_8 : decode cL_count 8 = .ok (.lastore, 1) := by decide +kernel
theorem dL_count_9 : decode cL_count 9 = .ok (.goto 6, 3) := by decide +kernel
theorem dL_count_12 : decode cL_count 12 = .ok (.astore_n 3, 1) := by decide +kernel
theorem dL_count_13 : decode cL_count 13 = .ok (.iconst 1, 1) := by decide +kernel
theorem dL_count_14 : decode cL_count 14 = .ok (.ireturn, 1) := by decide +kernel
theorem dL_count_15 : decode cL_count 15 = .ok (.iconst 0, 1) := by decide +kernel
theorem dL_count_16 : decode cL_count 16 = .ok (.ireturn, 1) := by decide +kernel
def cd_count (u : Nat) : Option Int32 := if u = 1 then some 1 else none
def g_count (a1 : Int32) (M : Mem) (L : Lng) : Option (Int32 × Mem × Lng) :=
  (f_X8_count a1 M).bind fun o => Sum.elim (fun u => (cd_count u).bind fun k => some (k, M, L)) (fun r => some (0, M, outL L (Int32.toInt64 r))) o
theorem hd_L_count : yL_count.cls ≠ "java/lang/invoke/MethodHandle" ∧ yL_count.cls ≠ "java/lang/invoke/VarHandle" ∧ (parseMethodDescriptor yL_count.desc).map (fun d => d.parameters.length) = some 3 := by decide +kernel
set_option maxHeartbeats 4000000 in
set_option maxRecDepth 100000 in
theorem c_L_count (w : WT) (l : Launch) (hw : WOK w) (hfl : l.stackTraces = false) {a1 : Int32} {M : Mem} {L : Lng} {out : Int32 × Mem × Lng} (hf : g_count a1 M L = some out) : Met l yL_count (Cond.codeWith yL_count cL_count 4 (some .int) [(0, 9, 12, 15)] :: BG) ({ frames := 7, cells := 1, slots := 6, locals := 111 } : Room) (PREL w [.ref (wAd w 0), .int a1, .ref (wAd w 108)] M L) (QI w out.1 out.2.1 out.2.2) 1 6 (wA w) := by
  refine kEntW hw (by decide +kernel) rfl (Nat.le_of_ble_eq_true rfl) ?_
  intro p e s m args below meth c C K ls hl hP
  have hS : va_S (wA w) s.heap s.heap [] := va_S.rf
  have hl : lv_has ls 4 [(0, .ref (wAd w 0)), (1, .int a1), (2, .ref (wAd w 108))] := hl
  unfold g_count at hf
  refine lv_aload_n C.1 C.2.1 dL_count_0 rfl (lv_at hl 2 rfl) ?_
  refine lv_iconst (v := 0) C.1 C.2.1 dL_count_1 (by decide) ?_
  refine lv_aload_n C.1 C.2.1 dL_count_2 rfl (lv_at hl 0 rfl) ?_
  refine lv_iload_n C.1 C.2.1 dL_count_3 rfl (lv_at hl 1 rfl) ?_
  obtain ⟨o, ho, hf⟩ := ob hf
  refine kxi (o := (xo o M)) (kxV (As := [.int a1]) (rest := [.int 0, .ref (wAd w 108)]) C K.1 hl.1 hP hS (c_X8_count w l C.2.2.2.2.2.2.2.2 hfl (L := L) ho) (gV q823 q824 q825 q1 q826) hd_X8_count ⟨rfl, rfl⟩ ⟨Nat.le_of_ble_eq_true rfl, Nat.le_of_ble_eq_true rfl⟩ rfl rfl (Nat.le_of_ble_eq_true rfl) dL_count_4 ⟨Nat.le_refl _, Nat.le_refl _⟩) hS (fun k M1 ce q9 H locs hok hk hP hS hce hcv hcl => ?_) (fun r M1 H locs hok hP hS => ?_)
  · cases o with
    | inr r => cases hok
    | inl u =>
      cases hok
      simp only [Sum.elim_inl] at hf
      obtain ⟨kc, hkc, hf⟩ := ob hf
      cases hf
      unfold cd_count at hkc
      by_cases e0 : k = 1
      · have hkc := (if_pos e0).symm.trans hkc
        cases hkc
        subst e0
        refine k_catch C K 1 (by decide) [] ⟨0, 9, 12, 15⟩ [] rfl (fun z hz => nomatch hz) (by decide) (by decide) q464 hce hcv hcl ?_
        refine lv_astore_n (lv' := [(3, .ref q9), (0, .ref (wAd w 0)), (1, .int a1), (2, .ref (wAd w 108))]) C.1 C.2.1 dL_count_12 rfl hl (by decide) rfl (fun ls hl => ?_)
        refine lv_iconst (v := 1) C.1 C.2.1 dL_count_13 (by decide) ?_
        exact kri C hP hS dL_count_14
      · have hkc := (if_neg e0).symm.trans hkc
        cases hkc
  · cases o with
    | inl u => cases hok
    | inr u =>
      cases hok
      simp only [Sum.elim_inr] at hf
      cases hf
      refine lv_i2l (v := Int32.toInt64 r) C.1 C.2.1 dL_count_7 rfl ?_
      refine k_last C hP hS dL_count_8 (fun H locs hP hS => ?_)
      refine lv_goto (tgt := 15) C.1 C.2.1 dL_count_9 (by decide) ?_
      refine lv_iconst (v := 0) C.1 C.2.1 dL_count_15 (by decide) ?_
      exact kri C hP hS dL_count_16
theorem dL_setting_0 : decode cL_setting 0 = .ok (.aload_n 2, 1) := by decide +kernel
theorem dL_setting_1 : decode cL_setting 1 = .ok (.iconst 0, 1) := by decide +kernel
theorem dL_setting_2 : decode cL_setting 2 = .ok (.aload_n 0, 1) := by decide +kernel
theorem dL_setting_3 : decode cL_setting 3 = .ok (.iload_n 1, 1) := by decide +kernel
theorem dL_setting_4 : decode cL_setting 4 = .ok (.invokevirtual 64, 3) := by decide +kernel
theorem dL_setting_7 : decode cL_setting 7 = .ok (.i2l, 1) := by decide +kernel
theorem dL_setting_8 : decode cL_setting 8 = .ok (.lastore, 1) := by decide +kernel
theorem dL_setting_9 : decode cL_setting 9 = .ok (.goto 6, 3) := by decide +kernel
theorem dL_setting_12 : decode cL_setting 12 = .ok (.astore_n 3, 1) := by decide +kernel
theorem dL_setting_13 : decode cL_setting 13 = .ok (.iconst 1, 1) := by decide +kernel
theorem dL_setting_14 : decode cL_setting 14 = .ok (.ireturn, 1) := by decide +kernel
theorem dL_setting_15 : decode cL_setting 15 = .ok (.iconst 0, 1) := by decide +kernel
theorem dL_setting_16 : decode cL_setting 16 = .ok (.ireturn, 1) := by decide +kernel
def cd_setting (u : Nat) : Option Int32 := if u = 0 then some 1 else none
def g_setting (a1 : Int32) (M : Mem) (L : Lng) : Option (Int32 × Mem × Lng) :=
  (f_X8_setting a1 M).bind fun o => Sum.elim (fun u => (cd_setting u).bind fun k => some (k, M, L)) (fun r => some (0, M, outL L (Int32.toInt64 r))) o
theorem hd_L_setting : yL_setting.cls ≠ "java/lang/invoke/MethodHandle" ∧ yL_setting.cls ≠ "java/lang/invoke/VarHandle" ∧ (parseMethodDescriptor yL_setting.desc).map (fun d => d.parameters.length) = some 3 := by decide +kernel
set_option maxHeartbeats 4000000 in
set_option maxRecDepth 100000 in
theorem c_L_setting (w : WT) (l : Launch) (hw : WOK w) (hfl : l.stackTraces = false) {a1 : Int32} {M : Mem} {L : Lng} {out : Int32 × Mem × Lng} (hf : g_setting a1 M L = some out) : Met l yL_setting (Cond.codeWith yL_setting cL_setting 4 (some .int) [(0, 9, 12, 13)] :: BG) ({ frames := 7, cells := 1, slots := 6, locals := 111 } : Room) (PREL w [.ref (wAd w 0), .int a1, .ref (wAd w 108)] M L) (QI w out.1 out.2.1 out.2.2) 1 6 (wA w) := by
  refine kEntW hw (by decide +kernel) rfl (Nat.le_of_ble_eq_true rfl) ?_
  intro p e s m args below meth c C K ls hl hP
  have hS : va_S (wA w) s.heap s.heap [] := va_S.rf
  have hl : lv_has ls 4 [(0, .ref (wAd w 0)), (1, .int a1), (2, .ref (wAd w 108))] := hl
  unfold g_setting at hf
  refine lv_aload_n C.1 C.2.1 dL_setting_0 rfl (lv_at hl 2 rfl) ?_
  refine lv_iconst (v := 0) C.1 C.2.1 dL_setting_1 (by decide) ?_
  refine lv_aload_n C.1 C.2.1 dL_setting_2 rfl (lv_at hl 0 rfl) ?_
  refine lv_iload_n C.1 C.2.1 dL_setting_3 rfl (lv_at hl 1 rfl) ?_
  obtain ⟨o, ho, hf⟩ := ob hf
  refine kxi (o := (xo o M)) (kxV (As := [.int a1]) (rest := [.int 0, .ref (wAd w 108)]) C K.1 hl.1 hP hS (c_X8_setting w l C.2.2.2.2.2.2.2.2 hfl (L := L) ho) (gV q830 q831 q832 q1 q833) hd_X8_setting ⟨rfl, rfl⟩ ⟨Nat.le_of_ble_eq_true rfl, Nat.le_of_ble_eq_true rfl⟩ rfl rfl (Nat.le_of_ble_eq_true rfl) dL_setting_4 ⟨Nat.le_refl _, Nat.le_refl _⟩) hS (fun k M1 ce q9 H locs hok hk hP hS hce hcv hcl => ?_) (fun r M1 H locs hok hP hS => ?_)
  · cases o with
    | inr r => cases hok
    | inl u =>
      cases hok
      simp only [Sum.elim_inl] at hf
      obtain ⟨kc, hkc, hf⟩ := ob hf
      cases hf
      unfold cd_setting at hkc
      by_cases e0 : k = 0
      · have hkc := (if_pos e0).symm.trans hkc
        cases hkc
        subst e0
        refine k_catch C K 0 (by decide) [] ⟨0, 9, 12, 13⟩ [] rfl (fun z hz => nomatch hz) (by decide) (by decide) q463 hce hcv hcl ?_
        refine lv_astore_n (lv' := [(3, .ref q9), (0, .ref (wAd w 0)), (1, .int a1), (2, .ref (wAd w 108))]) C.1 C.2.1 dL_setting_12 rfl hl (by decide) rfl (fun ls hl => ?_)
        refine lv_iconst (v := 1) C.1 C.2.1 dL_setting_13 (by decide) ?_
        exact kri C hP hS dL_setting_14
      · have hkc := (if_neg e0).symm.trans hkc
        cases hkc
  · cases o with
    | inl u => cases hok
    | inr u =>
      cases hok
      simp only [Sum.elim_inr] at hf
      cases hf
      refine lv_i2l (v := Int32.toInt64 r) C.1 C.2.1 dL_setting_7 rfl ?_
      refine k_last C hP hS dL_setting_8 (fun H locs hP hS => ?_)
      refine lv_goto (tgt := 15) C.1 C.2.1 dL_setting_9 (by decide) ?_
      refine lv_iconst (v := 0) C.1 C.2.1 dL_setting_15 (by decide) ?_
      exact kri C hP hS dL_setting_16
theorem dL_ifSet_0 : decode cL_ifSet 0 = .ok (.aload 4, 2) := by decide +kernel
theorem dL_ifSet_2 : decode cL_ifSet 2 = .ok (.iconst 0, 1) := by decide +kernel
theorem dL_ifSet_3 : decode cL_ifSet 3 = .ok (.aload_n 0, 1) := by decide +kernel
theorem dL_ifSet_4 : decode cL_ifSet 4 = .ok (.iload_n 1, 1) := by decide +kernel
theorem dL_ifSet_5 : decode cL_ifSet 5 = .ok (.iload_n 2, 1) := by decide +kernel
theorem dL_ifSet_6 : decode cL_ifSet 6 = .ok (.iload_n 3, 1) := by decide +kernel
theorem dL_ifSet_7 : decode cL_ifSet 7 = .ok (.invokevirtual 67, 3) := by decide +kernel
theorem dL_ifSet_10 : decode cL_ifSet 10 = .ok (.i2l, 1) := by decide +kernel
theorem dL_ifSet_11 : decode cL_ifSet 11 = .ok (.lastore, 1) := by decide +kernel
theorem dL_ifSet_12 : decode cL_ifSet 12 = .ok (.goto 11, 3) := by decide +kernel
theorem dL_ifSet_15 : decode cL_ifSet 15 = .ok (.astore 5, 2) := by decide +kernel
theorem dL_ifSet_17 : decode cL_ifSet 17 = .ok (.iconst 1, 1) := by decide +kernel
theorem dL_ifSet_18 : decode cL_ifSet 18 = .ok (.ireturn, 1) := by decide +kernel
theorem dL_ifSet_19 : decode cL_ifSet 19 = .ok (.astore 5, 2) := by decide +kernel
theorem dL_ifSet_21 : decode cL_ifSet 21 = .ok (.iconst 2, 1) := by decide +kernel
theorem dL_ifSet_22 : decode cL_ifSet 22 = .ok (.ireturn, 1) := by decide +kernel
theorem dL_ifSet_23 : decode cL_ifSet 23 = .ok (.iconst 0, 1) := by decide +kernel
theorem dL_ifSet_24 : decode cL_ifSet 24 = .ok (.ireturn, 1) := by decide +kernel
def cd_ifSet (u : Nat) : Option Int32 := if u = 0 then some 1 else if u = 1 then some 2 else none
def g_ifSet (a1 : Int32) (a2 : Int32) (a3 : Int32) (M : Mem) (L : Lng) : Option (Int32 × Mem × Lng) :=
  (f_X8_ifSet a1 a2 a3 M).bind fun o => Sum.elim (fun u => (cd_ifSet u.1).bind fun k => some (k, u.2, L)) (fun r => some (0, r.2, outL L (Int32.toInt64 r.1))) o
theorem hd_L_ifSet : yL_ifSet.cls ≠ "java/lang/invoke/MethodHandle" ∧ yL_ifSet.cls ≠ "java/lang/invoke/VarHandle" ∧ (parseMethodDescriptor yL_ifSet.desc).map (fun d => d.parameters.length) = some 5 := by decide +kernel
set_option maxHeartbeats 4000000 in
set_option maxRecDepth 100000 in
theorem c_L_ifSet (w : WT) (l : Launch) (hw : WOK w) (hfl : l.stackTraces = false) {a1 : Int32} {a2 : Int32} {a3 : Int32} {M : Mem} {L : Lng} {out : Int32 × Mem × Lng} (hf : g_ifSet a1 a2 a3 M L = some out) : Met l yL_ifSet (Cond.codeWith yL_ifSet cL_ifSet 6 (some .int) [(0, 12, 15, 13), (0, 12, 19, 15)] :: BG) ({ frames := 7, cells := 1, slots := 6, locals := 134 } : Room) (PREL w [.ref (wAd w 0), .int a1, .int a2, .int a3, .ref (wAd w 108)] M L) (QI w out.1 out.2.1 out.2.2) 1 6 (wA w) := by
  refine kEntW hw (by decide +kernel) rfl (Nat.le_of_ble_eq_true rfl) ?_
  intro p e s m args below meth c C K ls hl hP
  have hS : va_S (wA w) s.heap s.heap [] := va_S.rf
  have hl : lv_has ls 6 [(0, .ref (wAd w 0)), (1, .int a1), (2, .int a2), (3, .int a3), (4, .ref (wAd w 108))] := hl
  unfold g_ifSet at hf
  refine lv_aload C.1 C.2.1 dL_ifSet_0 (lv_at hl 4 rfl) ?_
  refine lv_iconst (v := 0) C.1 C.2.1 dL_ifSet_2 (by decide) ?_
  refine lv_aload_n C.1 C.2.1 dL_ifSet_3 rfl (lv_at hl 0 rfl) ?_
  refine lv_iload_n C.1 C.2.1 dL_ifSet_4 rfl (lv_at hl 1 rfl) ?_
  refine lv_iload_n C.1 C.2.1 dL_ifSet_5 rfl (lv_at hl 2 rfl) ?_
  refine lv_iload_n C.1 C.2.1 dL_ifSet_6 rfl (lv_at hl 3 rfl) ?_
  obtain ⟨o, ho, hf⟩ := ob hf
  refine kxi (o := o) (kxV (As := [.int a1, .int a2, .int a3]) (rest := [.int 0, .ref (wAd w 108)]) C K.1 hl.1 hP hS (c_X8_ifSet w l C.2.2.2.2.2.2.2.2 hfl (L := L) ho) (gV q837 q838 q839 q1 q840) hd_X8_ifSet ⟨rfl, rfl⟩ ⟨Nat.le_of_ble_eq_true rfl, Nat.le_of_ble_eq_true rfl⟩ rfl rfl (Nat.le_of_ble_eq_true rfl) dL_ifSet_7 ⟨Nat.le_refl _, Nat.le_refl _⟩) hS (fun k M1 ce q9 H locs hok hk hP hS hce hcv hcl => ?_) (fun r M1 H locs hok hP hS => ?_)
  · subst hok
    simp only [Sum.elim_inl] at hf
    obtain ⟨kc, hkc, hf⟩ := ob hf
    cases hf
    unfold cd_ifSet at hkc
    by_cases e0 : k = 0
    · have hkc := (if_pos e0).symm.trans hkc
      cases hkc
      subst e0
      refine k_catch C K 0 (by decide) [] ⟨0, 12, 15, 13⟩ [⟨0, 12, 19, 15⟩] rfl (fun z hz => nomatch hz) (by decide) (by decide) q463 hce hcv hcl ?_
      refine lv_astore (lv' := [(5, .ref q9), (0, .ref (wAd w 0)), (1, .int a1), (2, .int a2), (3, .int a3), (4, .ref (wAd w 108))]) C.1 C.2.1 dL_ifSet_15 hl (by decide) rfl (fun ls hl => ?_)
      refine lv_iconst (v := 1) C.1 C.2.1 dL_ifSet_17 (by decide) ?_
      exact kri C hP hS dL_ifSet_18
    · have hkc := (if_neg e0).symm.trans hkc
      by_cases e1 : k = 1
      · have hkc := (if_pos e1).symm.trans hkc
        cases hkc
        subst e1
        refine k_catch C K 1 (by decide) [⟨0, 12, 15, 13⟩] ⟨0, 12, 19, 15⟩ [] rfl (fun z hz => by cases List.mem_singleton.mp hz; exact ⟨by decide, 0, by decide, by decide, q463⟩) (by decide) (by decide) q464 hce hcv hcl ?_
        refine lv_astore (lv' := [(5, .ref q9), (0, .ref (wAd w 0)), (1, .int a1), (2, .int a2), (3, .int a3), (4, .ref (wAd w 108))]) C.1 C.2.1 dL_ifSet_19 hl (by decide) rfl (fun ls hl => ?_)
        refine lv_iconst (v := 2) C.1 C.2.1 dL_ifSet_21 (by decide) ?_
        exact kri C hP hS dL_ifSet_22
      · have hkc := (if_neg e1).symm.trans hkc
        cases hkc
  · subst hok
    simp only [Sum.elim_inr] at hf
    cases hf
    refine lv_i2l (v := Int32.toInt64 r) C.1 C.2.1 dL_ifSet_10 rfl ?_
    refine k_last C hP hS dL_ifSet_11 (fun H locs hP hS => ?_)
    refine lv_goto (tgt := 23) C.1 C.2.1 dL_ifSet_12 (by decide) ?_
    refine lv_iconst (v := 0) C.1 C.2.1 dL_ifSet_23 (by decide) ?_
    exact kri C hP hS dL_ifSet_24
theorem dL_leastLimit_0 : decode cL_leastLimit 0 = .ok (.aload_n 2, 1) := by decide +kernel
theorem dL_leastLimit_1 : decode cL_leastLimit 1 = .ok (.iconst 0, 1) := by decide +kernel
theorem dL_leastLimit_2 : decode cL_leastLimit 2 = .ok (.aload_n 0, 1) := by decide +kernel
theorem dL_leastLimit_3 : decode cL_leastLimit 3 = .ok (.iload_n 1, 1) := by decide +kernel
theorem dL_leastLimit_4 : decode cL_leastLimit 4 = .ok (.invokevirtual 70, 3) := by decide +kernel
theorem dL_leastLimit_7 : decode cL_leastLimit 7 = .ok (.i2l, 1) := by decide +kernel
theorem dL_leastLimit_8 : decode cL_leastLimit 8 = .ok (.lastore, 1) := by decide +kernel
theorem dL_leastLimit_9 : decode cL_leastLimit 9 = .ok (.goto 6, 3) := by decide +kernel
theorem dL_leastLimit_12 : decode cL_leastLimit 12 = .ok (.astore_n 3, 1) := by decide +kernel
theorem dL_leastLimit_13 : decode cL_leastLimit 13 = .ok (.iconst 1, 1) := by decide +kernel
theorem dL_leastLimit_14 : decode cL_leastLimit 14 = .ok (.ireturn, 1) := by decide +kernel
theorem dL_leastLimit_15 : decode cL_leastLimit 15 = .ok (.iconst 0, 1) := by decide +kernel
theorem dL_leastLimit_16 : decode cL_leastLimit 16 = .ok (.ireturn, 1) := by decide +kernel
def cd_leastLimit (u : Nat) : Option Int32 := if u = 1 then some 1 else none
def g_leastLimit (a1 : Int32) (M : Mem) (L : Lng) : Option (Int32 × Mem × Lng) :=
  (f_X8_leastLimit a1 M).bind fun o => Sum.elim (fun u => (cd_leastLimit u).bind fun k => some (k, M, L)) (fun r => some (0, M, outL L (Int32.toInt64 r))) o
theorem hd_L_leastLimit : yL_leastLimit.cls ≠ "java/lang/invoke/MethodHandle" ∧ yL_leastLimit.cls ≠ "java/lang/invoke/VarHandle" ∧ (parseMethodDescriptor yL_leastLimit.desc).map (fun d => d.parameters.length) = some 3 := by decide +kernel
set_option maxHeartbeats 4000000 in
set_option maxRecDepth 100000 in
theorem c_L_leastLimit (w : WT) (l : Launch) (hw : WOK w) (hfl : l.stackTraces = false) {a1 : Int32} {M : Mem} {L : Lng} {out : Int32 × Mem × Lng} (hf : g_leastLimit a1 M L = some out) : Met l yL_leastLimit (Cond.codeWith yL_leastLimit cL_leastLimit 4 (some .int) [(0, 9, 12, 15)] :: BG) ({ frames := 7, cells := 1, slots := 6, locals := 134 } : Room) (PREL w [.ref (wAd w 0), .int a1, .ref (wAd w 108)] M L) (QI w out.1 out.2.1 out.2.2) 1 6 (wA w) := by
  refine kEntW hw (by decide +kernel) rfl (Nat.le_of_ble_eq_true rfl) ?_
  intro p e s m args below meth c C K ls hl hP
  have hS : va_S (wA w) s.heap s.heap [] := va_S.rf
  have hl : lv_has ls 4 [(0, .ref (wAd w 0)), (1, .int a1), (2, .ref (wAd w 108))] := hl
  unfold g_leastLimit at hf
  refine lv_aload_n C.1 C.2.1 dL_leastLimit_0 rfl (lv_at hl 2 rfl) ?_
  refine lv_iconst (v := 0) C.1 C.2.1 dL_leastLimit_1 (by decide) ?_
  refine lv_aload_n C.1 C.2.1 dL_leastLimit_2 rfl (lv_at hl 0 rfl) ?_
  refine lv_iload_n C.1 C.2.1 dL_leastLimit_3 rfl (lv_at hl 1 rfl) ?_
  obtain ⟨o, ho, hf⟩ := ob hf
  refine kxi (o := (xo o M)) (kxV (As := [.int a1]) (rest := [.int 0, .ref (wAd w 108)]) C K.1 hl.1 hP hS (c_X8_leastLimit w l C.2.2.2.2.2.2.2.2 hfl (L := L) ho) (gV q845 q846 q847 q1 q848) hd_X8_leastLimit ⟨rfl, rfl⟩ ⟨Nat.le_of_ble_eq_true rfl, Nat.le_of_ble_eq_true rfl⟩ rfl rfl (Nat.le_of_ble_eq_true rfl) dL_leastLimit_4 ⟨Nat.le_refl _, Nat.le_refl _⟩) hS (fun k M1 ce q9 H locs hok hk hP hS hce hcv hcl => ?_) (fun r M1 H locs hok hP hS => ?_)
  · cases o with
    | inr r => cases hok
    | inl u =>
      cases hok
      simp only [Sum.elim_inl] at hf
      obtain ⟨kc, hkc, hf⟩ := ob hf
      cases hf
      unfold cd_leastLimit at hkc
      by_cases e0 : k = 1
      · have hkc := (if_pos e0).symm.trans hkc
        cases hkc
        subst e0
        refine k_catch C K 1 (by decide) [] ⟨0, 9, 12, 15⟩ [] rfl (fun z hz => nomatch hz) (by decide) (by decide) q464 hce hcv hcl ?_
        refine lv_astore_n (lv' := [(3, .ref q9), (0, .ref (wAd w 0)), (1, .int a1), (2, .ref (wAd w 108))]) C.1 C.2.1 dL_leastLimit_12 rfl hl (by decide) rfl (fun ls hl => ?_)
        refine lv_iconst (v := 1) C.1 C.2.1 dL_leastLimit_13 (by decide) ?_
        exact kri C hP hS dL_leastLimit_14
      · have hkc := (if_neg e0).symm.trans hkc
        cases hkc
  · cases o with
    | inl u => cases hok
    | inr u =>
      cases hok
      simp only [Sum.elim_inr] at hf
      cases hf
      refine lv_i2l (v := Int32.toInt64 r) C.1 C.2.1 dL_leastLimit_7 rfl ?_
      refine k_last C hP hS dL_leastLimit_8 (fun H locs hP hS => ?_)
      refine lv_goto (tgt := 15) C.1 C.2.1 dL_leastLimit_9 (by decide) ?_
      refine lv_iconst (v := 0) C.1 C.2.1 dL_leastLimit_15 (by decide) ?_
      exact kri C hP hS dL_leastLimit_16
theorem dL_aboveIn_0 : decode cL_aboveIn 0 = .ok (.aload_n 2, 1) := by decide +kernel
theorem dL_aboveIn_1 : decode cL_aboveIn 1 = .ok (.iconst 0, 1) := by decide +kernel
theorem dL_aboveIn_2 : decode cL_aboveIn 2 = .ok (.aload_n 0, 1) := by decide +kernel
theorem dL_aboveIn_3 : decode cL_aboveIn 3 = .ok (.iload_n 1, 1) := by decide +kernel
theorem dL_aboveIn_4 : decode cL_aboveIn 4 = .ok (.invokevirtual 73, 3) := by decide +kernel
theorem dL_aboveIn_7 : decode cL_aboveIn 7 = .ok (.i2l, 1) := by decide +kernel
theorem dL_aboveIn_8 : decode cL_aboveIn 8 = .ok (.lastore, 1) := by decide +kernel
theorem dL_aboveIn_9 : decode cL_aboveIn 9 = .ok (.goto 6, 3) := by decide +kernel
theorem dL_aboveIn_12 : decode cL_aboveIn 12 = .ok (.astore_n 3, 1) := by decide +kernel
theorem dL_aboveIn_13 : decode cL_aboveIn 13 = .ok (.iconst 1, 1) := by decide +kernel
theorem dL_aboveIn_14 : decode cL_aboveIn 14 = .ok (.ireturn, 1) := by decide +kernel
theorem dL_aboveIn_15 : decode cL_aboveIn 15 = .ok (.iconst 0, 1) := by decide +kernel
theorem dL_aboveIn_16 : decode cL_aboveIn 16 = .ok (.ireturn, 1) := by decide +kernel
def cd_aboveIn (u : Nat) : Option Int32 := if u = 1 then some 1 else none
def g_aboveIn (a1 : Int32) (M : Mem) (L : Lng) : Option (Int32 × Mem × Lng) :=
  (f_X8_aboveIn a1 M).bind fun o => Sum.elim (fun u => (cd_aboveIn u).bind fun k => some (k, M, L)) (fun r => some (0, M, outL L (Int32.toInt64 r))) o
theorem hd_L_aboveIn : yL_aboveIn.cls ≠ "java/lang/invoke/MethodHandle" ∧ yL_aboveIn.cls ≠ "java/lang/invoke/VarHandle" ∧ (parseMethodDescriptor yL_aboveIn.desc).map (fun d => d.parameters.length) = some 3 := by decide +kernel
set_option maxHeartbeats 4000000 in
set_option maxRecDepth 100000 in
theorem c_L_aboveIn (w : WT) (l : Launch) (hw : WOK w) (hfl : l.stackTraces = false) {a1 : Int32} {M : Mem} {L : Lng} {out : Int32 × Mem × Lng} (hf : g_aboveIn a1 M L = some out) : Met l yL_aboveIn (Cond.codeWith yL_aboveIn cL_aboveIn 4 (some .int) [(0, 9, 12, 15)] :: BG) ({ frames := 7, cells := 1, slots := 6, locals := 111 } : Room) (PREL w [.ref (wAd w 0), .int a1, .ref (wAd w 108)] M L) (QI w out.1 out.2.1 out.2.2) 1 6 (wA w) := by
  refine kEntW hw (by decide +kernel) rfl (Nat.le_of_ble_eq_true rfl) ?_
  intro p e s m args below meth c C K ls hl hP
  have hS : va_S (wA w) s.heap s.heap [] := va_S.rf
  have hl : lv_has ls 4 [(0, .ref (wAd w 0)), (1, .int a1), (2, .ref (wAd w 108))] := hl
  unfold g_aboveIn at hf
  refine lv_aload_n C.1 C.2.1 dL_aboveIn_0 rfl (lv_at hl 2 rfl) ?_
  refine lv_iconst (v := 0) C.1 C.2.1 dL_aboveIn_1 (by decide) ?_
  refine lv_aload_n C.1 C.2.1 dL_aboveIn_2 rfl (lv_at hl 0 rfl) ?_
  refine lv_iload_n C.1 C.2.1 dL_aboveIn_3 rfl (lv_at hl 1 rfl) ?_
  obtain ⟨o, ho, hf⟩ := ob hf
  refine kxi (o := (xo o M)) (kxV (As := [.int a1]) (rest := [.int 0, .ref (wAd w 108)]) C K.1 hl.1 hP hS (c_X8_aboveIn w l C.2.2.2.2.2.2.2.2 hfl (L := L) ho) (gV q853 q854 q855 q1 q856) hd_X8_aboveIn ⟨rfl, rfl⟩ ⟨Nat.le_of_ble_eq_true rfl, Nat.le_of_ble_eq_true rfl⟩ rfl rfl (Nat.le_of_ble_eq_true rfl) dL_aboveIn_4 ⟨Nat.le_refl _, Nat.le_refl _⟩) hS (fun k M1 ce q9 H locs hok hk hP hS hce hcv hcl => ?_) (fun r M1 H locs hok hP hS => ?_)
  · cases o with
    | inr r => cases hok
    | inl u =>
      cases hok
      simp only [Sum.elim_inl] at hf
      obtain ⟨kc, hkc, hf⟩ := ob hf
      cases hf
      unfold cd_aboveIn at hkc
      by_cases e0 : k = 1
      · have hkc := (if_pos e0).symm.trans hkc
        cases hkc
        subst e0
        refine k_catch C K 1 (by decide) [] ⟨0, 9, 12, 15⟩ [] rfl (fun z hz => nomatch hz) (by decide) (by decide) q464 hce hcv hcl ?_
        refine lv_astore_n (lv' := [(3, .ref q9), (0, .ref (wAd w 0)), (1, .int a1), (2, .ref (wAd w 108))]) C.1 C.2.1 dL_aboveIn_12 rfl hl (by decide) rfl (fun ls hl => ?_)
        refine lv_iconst (v := 1) C.1 C.2.1 dL_aboveIn_13 (by decide) ?_
        exact kri C hP hS dL_aboveIn_14
      · have hkc := (if_neg e0).symm.trans hkc
        cases hkc
  · cases o with
    | inl u => cases hok
    | inr u =>
      cases hok
      simp only [Sum.elim_inr] at hf
      cases hf
      refine lv_i2l (v := Int32.toInt64 r) C.1 C.2.1 dL_aboveIn_7 rfl ?_
      refine k_last C hP hS dL_aboveIn_8 (fun H locs hP hS => ?_)
      refine lv_goto (tgt := 15) C.1 C.2.1 dL_aboveIn_9 (by decide) ?_
      refine lv_iconst (v := 0) C.1 C.2.1 dL_aboveIn_15 (by decide) ?_
      exact kri C hP hS dL_aboveIn_16
