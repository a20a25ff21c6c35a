/-! THE CLAIM OUT OF ONE WALK OF THE LAW'S BODY. Your part is whole_start (and what it stands on); all else here is the same for every law, but numbers. -/
def R_law : String := "NoisePostLaw"
def lw_P (b : Addr) (xs : List Int32) (args : Array Value) (s : State) : Prop := args = #[.ref b] ∧ s.IntsAt b xs ∧ xs.length ≤ 260 ∧ (Jvm.Cond.and given_1 narrow_1).before args s = true
/-- what a walk over the start with the record d0 says of its end, said of the start itself -/
theorem lw_closed {s t : State} {o : Outcome} {d0 : Drawn} {L : List Loc} {k n : Nat} (hd0 : s.drawn.sameBut d0 lw_cs) (hv : ∃ v, o = .returned v) (hW : (s.setDrawn d0).WarmedH t.vm) (hs : (s.setDrawn d0).sameButNew ({ t with vm := s.vm } : State) L k n) : State.butDraws s t lw_cs (fun t1 => Framed s o t1 L k n) := by
  have h2 : t.drawn = d0 := congrArg State.drawn hs.1
  refine ⟨⟨hv, hW, State.sameButNew.setDrawn hs s.drawn⟩, ?_, by decide⟩
  rw [h2]
  exact hd0
def lw_Q (_ : Array Value) (s : State) (o : Outcome) (t : State) : Prop := o = .returned (some (.int 1)) ∧ State.butDraws s t lw_cs (fun t1 => Framed s o t1 [] 600130 7301080)
def lw_Z (below : List Frame) (a : Array Value) (s : State) : State → Prop := fun t => ∃ o, t.status = .running ∧ Ended t below o ∧ lw_Q a s o t
/-- the law's own end, with 1 on the stack, nothing written that was there before, its room as the claim has it; d0: the record of draws at this point (at the entry s.drawn: begin with 'refine W.base ?_' and 'have hd0 := Drawn.sameBut.refl s.drawn lw_cs') -/
theorem lw_ret {p : Program} {l : Launch} {e : Env} {s : State} {m : MethodId} {below : List Frame} {meth : Method} {c : Code} {b : Nat} {d0 : Drawn} (hd0 : s.drawn.sameBut d0 lw_cs) (hx : p.tables.exec = Jvm.exec) (hb : c.code = code) (hr : meth.sig.returnType = ret) (hlocks : meth.locks = false) {pc : Nat} {H : Heap} {ls : Array Slot} (hdg : decode code pc = .ok (.ireturn, 1)) : W p l e room_1 (s.setDrawn d0) m #[Value.ref b] below meth c H [] 600130 7301080 (lw_Z below #[Value.ref b] s) (F0 m pc ls [.int 1]) := by
  intro T hT X
  obtain ⟨fs, hret, hrun, hended, hW, hframe⟩ := X.leave (v := some (.int 1)) (hlocks := hlocks) (fun h => by rw [hr] at h; cases h)
  have hmeth' : T.vm.method? m = some meth := X.method'
  refine ⟨T.setFrames fs, ?_, .returned (some (.int 1)), hrun, hended, rfl, lw_closed hd0 ⟨_, rfl⟩ hW hframe⟩
  jvm_step X.here [X.here.top, hx, hb, hdg, hmeth', hr, ret, narrow_b1]
  (try refine ⟨rfl, ?_⟩); (try refine ⟨rfl, ?_⟩)
  first | (intro acts; rw [hret _ acts rfl rfl rfl]) | rw [hret _ _ rfl rfl rfl]
  exact Steps.refl _
/-- what holds at the law's entry: the machine, the code, the tables' words (any of lw_tbl by 'hts w (by decide +kernel)'), the script of L ints xs at the cell b, what the Statement gives of the start (any of its parts by flat_of_before) -/
def lw_At (p : Program) (s : State) (m : MethodId) (meth : Method) (c : Code) (b L : Nat) (xs : Nat → Int32) : Prop :=
  p.tables.exec = Jvm.exec ∧ c.code = code ∧ meth.sig.returnType = ret ∧ c.maxLocals = 10 ∧ s.vm.findClass R_law = some m.cls ∧ (∀ w ∈ lw_tbl, w.before #[Value.ref b] s = true) ∧ va_X b L xs s s.heap ∧ b < s.heap.size ∧ meth.locks = false ∧ (Jvm.Cond.and given_1 narrow_1).before #[Value.ref b] s = true
def L0 : Lng := fun _ => 0
theorem qcell : Cond.constant RL 7 1116352408 ∈ BG := bg_t 383 (by decide +kernel) (by decide +kernel)
theorem qmask : Cond.constant RL 112 2147483647 ∈ BG := bg_t 721 (by decide +kernel) (by decide +kernel)
/-! the law's loop -/
theorem rm6 : ∀ j, j < 20 → rmI (nI j) 6 = some (nI (j % 6)) := by decide +kernel
theorem tw2 : ∀ j, j < 20 → (2 : Int32) * nI j = nI (2 * j) := by decide +kernel
theorem ml3 : ∀ j, j < 20 → (nI j < 3 ↔ j < 3) := by decide +kernel
theorem m65 : ∀ j, j < 20 → (nI (j % 6) = 5 ↔ j % 6 = 5) := by decide +kernel
theorem step_le {a k n B : Nat} (h : a + k * (n + 1) ≤ B) : a + k ≤ B ∧ a + k + k * n ≤ B := by
  rw [Nat.mul_succ] at h
  generalize k * n = t at h ⊢
  omega
def cellV (Ln : Nat) (xs : Nat → Int32) (k : Nat) : Int32 := if k < Ln then xs k else 1116352408 * (nI k + 1)
def TurnOK (j : Nat) (x y : Int32) (M : Mem) (P : Mem → Prop) : Prop := ∃ a M1 M2, (if j < 3 then a = 0 else f_L_at (x >>> (13 &&& 31)) 16 M = some a) ∧ f_L_act a x y M = some (1, M1) ∧ f_L_told (y >>> (2 &&& 31)) M1 = some (1, M2) ∧ (if j % 6 = 5 then ∃ M3, f_L_ahead (y >>> (2 &&& 31)) (x >>> (2 &&& 31)) M2 = some (1, M3) ∧ P M3 else P M2)
section RowsW
variable {w : WT} {p : Program} {l : Launch} {e : Env} {R : Room} {s : State} {m : MethodId} {args : Array Value} {below : List Frame} {meth : Method} {c : Code} {H : Heap} {locs : List Loc} {cells slots : Nat} {Q : State → Prop}
variable {cc : ByteArray} {nL pc : Nat} {own : String} {ret : Option FieldType} {ls : Array Slot} {rest st0 : List Value} {M M' : Mem} {L L' : Lng}
/-- what the law stands on besides: the script -/
def KW (w : WT) (s : State) (b Ln : Nat) (xs : Nat → Int32) : Prop := va_X b Ln xs s s.heap ∧ b < s.heap.size ∧ b < wSz w ∧ Ln ≤ 260
def PREC (w : WT) (b Ln : Nat) (xs : Nat → Int32) (av : List Value) (M : Mem) (L : Lng) : Array Value → State → Prop := va_Pc av (fun U => (EF w U ∧ va_P (wD w) vwCl (pic w M L) U.heap) ∧ KW w U b Ln xs)
theorem blindPREC (w : WT) (b Ln : Nat) (xs : Nat → Int32) (av : List Value) (M : Mem) (L : Lng) : FrameBlind (PREC w b Ln xs av M L) := by
  intro a U g mk h
  exact ⟨h.1, ⟨h.2.1.1.same rfl rfl, h.2.1.2⟩, va_X.moved (Vm.Alike.refl _) h.2.2.1, h.2.2.2⟩
theorem c_L_cell (w : WT) (l : Launch) (hw : WOK w) {b Ln : Nat} {xs : Nat → Int32} {k : Nat} (hk : k < 1000) {M : Mem} {L : Lng} : Met l yL_cell (Cond.code yL_cell cL_cell 2 (some .int) :: BG) ({ frames := 0, cells := 0, slots := 0, locals := 0 } : Room) (PREC w b Ln xs [.ref b, .int (nI k)] M L) (QI w (cellV Ln xs k) M L) 0 0 (wA w) := by
  refine ofWF (cc := cL_cell) (maxL := 2) (ret := some .int) (by decide +kernel) rfl ?_
  intro p e s m args below meth c s₁ B hml hv
  obtain ⟨rfl, ⟨hE, hP⟩, hK⟩ := hv
  rw [lg_entry_eq]
  have hts := atoms_spec (ws := Cond.code yL_cell cL_cell 2 (some .int) :: BG) B.pre
  have C : KC w p s m _ meth c cL_cell 2 RL (some .int) := ⟨B.exec, B.bytes, hml, findClass_of_methodNamed B.named, fun x hx => hts x (List.mem_cons_of_mem _ hx), B.returns, B.notSynchronized, hE, hw⟩
  have hl := lv_entry ([.ref b, .int (nI k)]) (n := 2) (Nat.le_of_ble_eq_true rfl)
  generalize (lg_sl ([.ref b, .int (nI k)]) ++ List.replicate (2 - (lg_sl ([.ref b, .int (nI k)])).length) Slot.unset).toArray = ls at hl ⊢
  have hl : lv_has ls 2 [(0, .ref b), (1, .int (nI k))] := hl
  have hS : va_S (wA w) s.heap s.heap [] := va_S.rf
  obtain ⟨hX, hbl, hbz, hLn⟩ := hK
  have hbA : ¬ wA w b := fun h => absurd (Nat.lt_of_lt_of_le hbz h) (Nat.lt_irrefl _)
  refine lv_iload_n C.1 C.2.1 dL_cell_0 rfl (lv_at hl 1 rfl) ?_
  refine lv_aload_n C.1 C.2.1 dL_cell_1 rfl (lv_at hl 0 rfl) ?_
  refine va_slen C.1 C.2.1 hX hbl hbA hS dL_cell_2 ?_
  refine lv_icmp_ge (tgt := 12) C.1 C.2.1 dL_cell_3 (by decide) (fun cn => ?_) (fun cn => ?_)
  · have h9 : ¬ k < Ln := by
      intro q
      have h1 := Int32.le_iff_toInt_le.mp cn
      rw [show (Int32.ofNat Ln).toInt = (Ln : Int) from nI_toInt (n := Ln) (by omega), nI_toInt (n := k) (by omega)] at h1
      omega
    refine lv_ldc C.1 C.2.1 C.2.2.2.1 (C.2.2.2.2.1 _ qcell) dL_cell_12 ?_
    refine lv_iload_n C.1 C.2.1 dL_cell_14 rfl (lv_at hl 1 rfl) ?_
    refine lv_iconst (v := 1) C.1 C.2.1 dL_cell_15 (by decide) ?_
    refine lv_iadd C.1 C.2.1 dL_cell_16 ?_
    refine lv_imul C.1 C.2.1 dL_cell_17 ?_
    have e9 : cellV Ln xs k = 1116352408 * (nI k + 1) := by
      unfold cellV
      rw [if_neg h9]
    rw [e9]
    exact kri C hP hS dL_cell_18
  · have h9 : k < Ln := by
      have h1 : ¬ (Int32.ofNat Ln).toInt ≤ (nI k).toInt := fun q => cn (Int32.le_iff_toInt_le.mpr q)
      rw [show (Int32.ofNat Ln).toInt = (Ln : Int) from nI_toInt (n := Ln) (by omega), nI_toInt (n := k) (by omega)] at h1
      omega
    refine lv_aload_n C.1 C.2.1 dL_cell_6 rfl (lv_at hl 0 rfl) ?_
    refine lv_iload_n C.1 C.2.1 dL_cell_7 rfl (lv_at hl 1 rfl) ?_
    refine va_sld C.1 C.2.1 hX hbl hbA hS (vp_in_nI h9 (by omega)) dL_cell_8 ?_
    rw [nI_clamp (by omega)]
    refine lv_goto (tgt := 18) C.1 C.2.1 dL_cell_9 (by decide) ?_
    have e9 : cellV Ln xs k = xs k := by
      unfold cellV
      rw [if_pos h9]
    rw [e9]
    exact kri C hP hS dL_cell_18
theorem hd_L_cell : yL_cell.cls ≠ "java/lang/invoke/MethodHandle" ∧ yL_cell.cls ≠ "java/lang/invoke/VarHandle" ∧ (parseMethodDescriptor yL_cell.desc).map (fun d => d.parameters.length) = some 2 := by decide +kernel
theorem k_cell (C : KC w p s m args meth c cc nL own ret) (hl : ls.size = nL) (hP : va_P (wD w) vwCl (pic w M L) H) (hS : va_S (wA w) s.heap H locs) {b Ln index : Nat} {xs : Nat → Int32} (K : KW w s b Ln xs) {k : Nat} (hk : k < 1000)
    (hG : GoodIn BG (va_wsS own index yL_cell (Cond.code yL_cell cL_cell 2 (some .int) :: BG))) (hR : 0 + 1 ≤ R.frames ∧ 8 + (2 + 11) + 0 ≤ R.locals) (hr : (rest.map fun v => v.category).sum ≤ 8) (hdg : decode cc pc = .ok (.invokestatic index, 3)) (hf : cells ≤ R.cells ∧ slots ≤ R.slots)
    (kk : ∀ (H1 : Heap) (locs1 : List Loc), va_P (wD w) vwCl (pic w M L) H1 → va_S (wA w) s.heap H1 locs1 → W p l e R s m args below meth c H1 locs1 cells slots Q (F0 m (pc + 3) ls (.int (cellV Ln xs k) :: rest))) :
    W p l e R s m args below meth c H locs cells slots Q (F0 m pc ls (.int (nI k) :: .ref b :: rest)) := by
  have hbA : ¬ wA w b := fun h => absurd (Nat.lt_of_lt_of_le K.2.2.1 h) (Nat.lt_irrefl _)
  refine kci (r := cellV Ln xs k) (M' := M) (L' := L) (va_runS (As := [.ref b, .int (nI k)]) (rest := rest) ⟨C.1, C.2.1, C.2.2.1, C.2.2.2.1, C.2.2.2.2.1⟩ (c_L_cell w l C.2.2.2.2.2.2.2.2 (b := b) (Ln := Ln) (xs := xs) hk (M := M) (L := L)) (va_cwS 2 C.2.2.2.2.1 hG rfl rfl rfl hd_L_cell hR) ⟨blindPREC w b Ln xs _ M L, fun U hU hW => ⟨rfl, ⟨C.2.2.2.2.2.2.2.1.warm hW (by rw [hU]; exact hS), by rw [hU]; exact hP⟩, ?_⟩⟩ rfl rfl hl rfl (lv_room hr) hdg hf) hS kk
  refine ⟨(va_X.moved hW.alike K.1).kept (by rw [hU]; exact hS.2.1 b K.2.1 hbA), ?_, K.2.2.1, K.2.2.2⟩
  rw [hU]
  exact Nat.lt_of_lt_of_le K.2.1 hS.1
end RowsW

set_option maxHeartbeats 4000000 in
set_option maxRecDepth 100000 in
theorem law_loop {w : WT} {p : Program} {l : Launch} {e : Env} {s : State} {m : MethodId} {below : List Frame} {meth : Method} {c : Code} {b Ln : Nat} {xs : Nat → Int32} {L : Lng} (C : KC w p s m #[Value.ref b] meth c cL_law 10 RL (some .boolean)) (K : KW w s b Ln xs) (hN : wN w = 95) (hsz : wSz w = s.heap.size) (hb9 : c.code = code)
    (Rel : Nat → Mem → Prop) (hR : ∀ (j : Nat) (u v : Int32) (M : Mem), j < 20 → Rel j M → TurnOK j (u &&& 2147483647) (v &&& 2147483647) M (Rel (j + 1))) (hEnd : ∀ M, Rel 20 M → ∃ r, f_X8_count 10 M = some r ∧ 0 < r) :
    ∀ (n j cu su : Nat) (M : Mem) (H : Heap) (locs : List Loc) (ls : Array Slot), j + n = 20 → cu + 20012 * n ≤ 600130 → su + 120504 * n ≤ 7301080 → Rel j M → va_P (wD w) vwCl (pic w M L) H → va_S (wA w) s.heap H locs → lv_has ls 10 [(7, .int (nI j)), (0, .ref b), (1, .ref (wAd w 0)), (2, .ref (wAd w 90)), (3, .ref (wAd w 91)), (4, .ref (wAd w 92)), (5, .ref (wAd w 93)), (6, .ref (wAd w 94))] →
      W p l e room_1 s m #[Value.ref b] below meth c H locs cu su (lw_Z below #[Value.ref b] s) (F0 m 126 ls []) := by
  intro n
  induction n with
  | zero =>
    intro j cu su M H locs ls h1 h2 h3 hRel hP hS hl
    have er : room_1.cells = 600130 := rfl
    have es : room_1.slots = 7301080 := rfl
    refine lv_iload C.1 C.2.1 dL_law_126 (lv_at hl 0 rfl) ?_
    refine lv_bipush (v := 20) C.1 C.2.1 dL_law_128 (by decide) ?_
    have hj9 : j = 20 := by omega
    subst hj9
    refine lv_icmp_ge (tgt := 261) C.1 C.2.1 dL_law_130 (by decide) (fun cn => ?_) (fun cn => absurd (by decide) cn)
    obtain ⟨r, hr, hpos⟩ := hEnd M hRel
    refine lv_aload_n C.1 C.2.1 dL_law_261 rfl (lv_at hl 2 rfl) ?_
    refine lv_bipush (v := 10) C.1 C.2.1 dL_law_262 (by decide) ?_
    refine kci (kV (As := [.int 10]) (rest := []) C hl.1 hP hS (c_X8_count w l C.2.2.2.2.2.2.2.2 (L := L) hr) (gV q292 q293 q294 q1 q295) hd_X8_count (C9 C (lt_NoisePost h0_NoisePost)) (ob_NoisePost h0_NoisePost w L _) rfl ⟨rfl, rfl⟩ ⟨Nat.le_of_ble_eq_true rfl, Nat.le_of_ble_eq_true rfl⟩ rfl rfl (Nat.le_of_ble_eq_true rfl) dL_law_264 ⟨by have : room_1.cells = 600130 := rfl; omega, by have : room_1.slots = 7301080 := rfl; omega⟩) hS (fun H locs hP hS => ?_)
    refine lv_if_le (tgt := 274) C.1 C.2.1 dL_law_267 (by decide) (fun cn2 => ?_) (fun cn2 => ?_)
    · exact absurd cn2 (fun q => by have a1 := Int32.le_iff_toInt_le.mp q; have a2 := Int32.lt_iff_toInt_lt.mp hpos; omega)
    · refine lv_iconst (v := 1) C.1 C.2.1 dL_law_270 (by decide) ?_
      refine lv_goto (tgt := 275) C.1 C.2.1 dL_law_271 (by decide) ?_
      refine va_forget (fun q hq => by rw [← hsz]; exact hS.2.2 q hq) ?_
      refine W.widen (k := 600130) (n := 7301080) (by omega) (by omega) ?_
      exact lw_ret (d0 := s.drawn) (Drawn.sameBut.refl s.drawn lw_cs) C.1 hb9 C.2.2.2.2.2.1 C.2.2.2.2.2.2.1 dL_law_275
  | succ n ih =>
    intro j cu su M H locs ls h1 h2 h3 hRel hP hS hl
    refine lv_iload C.1 C.2.1 dL_law_126 (lv_at hl 0 rfl) ?_
    refine lv_bipush (v := 20) C.1 C.2.1 dL_law_128 (by decide) ?_
    have hj9 : j < 20 := by omega
    refine lv_icmp_ge (tgt := 261) C.1 C.2.1 dL_law_130 (by decide) (fun cn => ?_) (fun cn => ?_)
    · exfalso
      have h1 := Int32.le_iff_toInt_le.mp cn
      rw [nI_toInt (n := j) (by omega)] at h1
      have h2 : (20 : Int32).toInt = 20 := rfl
      omega
    · have hj20 : j < 20 := by
        have h1 : ¬ (20 : Int32).toInt ≤ (nI j).toInt := fun q => cn (Int32.le_iff_toInt_le.mpr q)
        rw [nI_toInt (n := j) (by omega)] at h1
        have h2 : (20 : Int32).toInt = 20 := rfl
        omega
      obtain ⟨hcc, hcc2⟩ := step_le h2
      obtain ⟨hss, hss2⟩ := step_le h3
      clear h2 h3
      have er : room_1.cells = 600130 := rfl
      have es : room_1.slots = 7301080 := rfl
      obtain ⟨a, M1, M2, ha, hact, htold, hrest⟩ := hR j (cellV Ln xs (2 * j)) (cellV Ln xs (2 * j + 1)) M hj20 hRel
      refine lv_aload_n C.1 C.2.1 dL_law_133 rfl (lv_at hl 1 rfl) ?_
      refine lv_iconst (v := 2) C.1 C.2.1 dL_law_134 (by decide) ?_
      refine lv_iload C.1 C.2.1 dL_law_135 (lv_at hl 0 rfl) ?_
      refine lv_imul C.1 C.2.1 dL_law_137 ?_
      rw [tw2 j hj20]
      refine k_cell C hl.1 hP hS K (k := 2 * j) (by omega) (gS q380 q381 q0 q382) ⟨Nat.le_of_ble_eq_true rfl, Nat.le_of_ble_eq_true rfl⟩ (Nat.le_of_ble_eq_true rfl) dL_law_138 ⟨by omega, by omega⟩ (fun H locs hP hS => ?_)
      refine lv_ldc C.1 C.2.1 C.2.2.2.1 (C.2.2.2.2.1 _ qmask) dL_law_141 ?_
      refine lv_iand C.1 C.2.1 dL_law_143 ?_
      obtain ⟨x, hx9⟩ : ∃ x, x = cellV Ln xs (2 * j) &&& 2147483647 := ⟨_, rfl⟩
      obtain ⟨y, hy9⟩ : ∃ y, y = cellV Ln xs (2 * j + 1) &&& 2147483647 := ⟨_, rfl⟩
      rw [← hx9, ← hy9] at hact hrest
      rw [← hy9] at htold
      rw [← hx9] at ha
      rw [← hx9]
      refine lv_istore (lv' := [(8, .int x), (7, .int (nI j)), (0, .ref b), (1, .ref (wAd w 0)), (2, .ref (wAd w 90)), (3, .ref (wAd w 91)), (4, .ref (wAd w 92)), (5, .ref (wAd w 93)), (6, .ref (wAd w 94))]) C.1 C.2.1 dL_law_144 hl (by decide) rfl (fun ls hl => ?_)
      refine lv_aload_n C.1 C.2.1 dL_law_146 rfl (lv_at hl 2 rfl) ?_
      refine lv_iconst (v := 2) C.1 C.2.1 dL_law_147 (by decide) ?_
      refine lv_iload C.1 C.2.1 dL_law_148 (lv_at hl 1 rfl) ?_
      refine lv_imul C.1 C.2.1 dL_law_150 ?_
      rw [tw2 j hj20]
      refine lv_iconst (v := 1) C.1 C.2.1 dL_law_151 (by decide) ?_
      refine lv_iadd C.1 C.2.1 dL_law_152 ?_
      rw [show nI (2 * j) + 1 = nI (2 * j + 1) from nI_add _ 1]
      refine k_cell C hl.1 hP hS K (k := 2 * j + 1) (by omega) (gS q380 q381 q0 q382) ⟨Nat.le_of_ble_eq_true rfl, Nat.le_of_ble_eq_true rfl⟩ (Nat.le_of_ble_eq_true rfl) dL_law_153 ⟨by omega, by omega⟩ (fun H locs hP hS => ?_)
      refine lv_ldc C.1 C.2.1 C.2.2.2.1 (C.2.2.2.2.1 _ qmask) dL_law_156 ?_
      refine lv_iand C.1 C.2.1 dL_law_158 ?_
      rw [← hy9]
      refine lv_istore (lv' := [(9, .int y), (8, .int x), (7, .int (nI j)), (0, .ref b), (1, .ref (wAd w 0)), (2, .ref (wAd w 90)), (3, .ref (wAd w 91)), (4, .ref (wAd w 92)), (5, .ref (wAd w 93)), (6, .ref (wAd w 94))]) C.1 C.2.1 dL_law_159 hl (by decide) rfl (fun ls hl => ?_)
      have hgo : ∀ (M3 : Mem) (H : Heap) (locs : List Loc) (ls : Array Slot) (c9 s9 : Nat), c9 ≤ cu + 20012 → s9 ≤ su + 120504 → Rel (j + 1) M3 → va_P (wD w) vwCl (pic w M3 L) H → va_S (wA w) s.heap H locs → lv_has ls 10 [(9, .int y), (8, .int x), (7, .int (nI j)), (0, .ref b), (1, .ref (wAd w 0)), (2, .ref (wAd w 90)), (3, .ref (wAd w 91)), (4, .ref (wAd w 92)), (5, .ref (wAd w 93)), (6, .ref (wAd w 94))] → W p l e room_1 s m #[Value.ref b] below meth c H locs c9 s9 (lw_Z below #[Value.ref b] s) (F0 m 255 ls []) := by
        intro M3 H locs ls c9 s9 h1 h2 hRel3 hP hS hl
        refine lv_iinc (v := nI (j + 1)) (lv' := [(7, .int (nI (j + 1))), (9, .int y), (8, .int x), (0, .ref b), (1, .ref (wAd w 0)), (2, .ref (wAd w 90)), (3, .ref (wAd w 91)), (4, .ref (wAd w 92)), (5, .ref (wAd w 93)), (6, .ref (wAd w 94))]) C.1 C.2.1 dL_law_255 hl (k := 2) rfl (by rw [show (Int32.ofInt 1) = nI 1 from rfl, nI_add]) (by decide) rfl (fun ls hl => ?_)
        refine lv_goto (tgt := 126) C.1 C.2.1 dL_law_258 (by decide) ?_
        refine W.widen (k := cu + 20012) (n := su + 120504) h1 h2 ?_
        exact ih (j + 1) (cu + 20012) (su + 120504) M3 H locs ls (by omega) hcc2 hss2 hRel3 hP hS (lv_sub hl [0, 3, 4, 5, 6, 7, 8, 9] rfl)
      have hact9 : ∀ (H : Heap) (locs : List Loc), va_P (wD w) vwCl (pic w M L) H → va_S (wA w) s.heap H locs → W p l e room_1 s m #[Value.ref b] below meth c H locs cu su (lw_Z below #[Value.ref b] s) (F0 m 182 ls [.int a, .ref (wAd w 0)]) := by
        intro H locs hP hS
        refine lv_iload C.1 C.2.1 dL_law_182 (lv_at hl 1 rfl) ?_
        refine lv_iload C.1 C.2.1 dL_law_184 (lv_at hl 0 rfl) ?_
        refine lv_aload_n C.1 C.2.1 dL_law_186 rfl (lv_at hl 5 rfl) ?_
        refine lv_aload_n C.1 C.2.1 dL_law_187 rfl (lv_at hl 6 rfl) ?_
        refine lv_aload C.1 C.2.1 dL_law_188 (lv_at hl 7 rfl) ?_
        refine lv_aload C.1 C.2.1 dL_law_190 (lv_at hl 8 rfl) ?_
        refine lv_aload C.1 C.2.1 dL_law_192 (lv_at hl 9 rfl) ?_
        refine kci (kS (As := [.ref (wAd w 0), .int a, .int x, .int y, .ref (wAd w 90), .ref (wAd w 91), .ref (wAd w 92), .ref (wAd w 93), .ref (wAd w 94)]) (rest := []) C hl.1 hP hS (c_L_act w l C.2.2.2.2.2.2.2.2 (L := L) hact) (gS q626 q627 q0 q628) hd_L_act ⟨rfl, rfl⟩ ⟨Nat.le_of_ble_eq_true rfl, Nat.le_of_ble_eq_true rfl⟩ rfl rfl (Nat.le_of_ble_eq_true rfl) dL_law_194 ⟨by omega, by omega⟩) hS (fun H locs hP hS => ?_)
        refine lv_if_eq (tgt := 219) C.1 C.2.1 dL_law_197 (by decide) (fun c1 => absurd c1 (show ¬ (1 : Int32) = 0 by decide)) (fun c1 => ?_)
        refine lv_aload_n C.1 C.2.1 dL_law_200 rfl (lv_at hl 4 rfl) ?_
        refine lv_iload C.1 C.2.1 dL_law_201 (lv_at hl 0 rfl) ?_
        refine lv_iconst (v := 2) C.1 C.2.1 dL_law_203 (by decide) ?_
        refine lv_ishr C.1 C.2.1 dL_law_204 ?_
        refine lv_aload_n C.1 C.2.1 dL_law_205 rfl (lv_at hl 5 rfl) ?_
        refine lv_aload_n C.1 C.2.1 dL_law_206 rfl (lv_at hl 6 rfl) ?_
        refine lv_aload C.1 C.2.1 dL_law_207 (lv_at hl 7 rfl) ?_
        refine lv_aload C.1 C.2.1 dL_law_209 (lv_at hl 8 rfl) ?_
        refine lv_aload C.1 C.2.1 dL_law_211 (lv_at hl 9 rfl) ?_
        refine kcic (kSc (As := [.ref (wAd w 0), .int (y >>> (2 &&& 31)), .ref (wAd w 90), .ref (wAd w 91), .ref (wAd w 92), .ref (wAd w 93), .ref (wAd w 94)]) (rest := []) C hl.1 hP hS (c_L_told w l C.2.2.2.2.2.2.2.2 hN (L := L) htold) (gS q387 q388 q0 q389) hd_L_told ⟨rfl, rfl⟩ ⟨Nat.le_of_ble_eq_true rfl, Nat.le_of_ble_eq_true rfl⟩ rfl rfl (Nat.le_of_ble_eq_true rfl) dL_law_213 ⟨by omega, by omega⟩) hS (fun H locs hP hS => ?_)
        refine lv_if_ne (tgt := 221) C.1 C.2.1 dL_law_216 (by decide) (fun c1 => ?_) (fun c1 => absurd c1 (show ¬ (1 : Int32) = 0 by decide))
        refine lv_iload C.1 C.2.1 dL_law_221 (lv_at hl 2 rfl) ?_
        refine lv_bipush (v := 6) C.1 C.2.1 dL_law_223 (by decide) ?_
        refine k_irem C (rm6 j hj20) dL_law_225 ?_
        refine lv_iconst (v := 5) C.1 C.2.1 dL_law_226 (by decide) ?_
        refine lv_icmp_ne (tgt := 255) C.1 C.2.1 dL_law_227 (by decide) (fun c2 => ?_) (fun c2 => ?_)
        · have h5 : ¬ j % 6 = 5 := fun q => c2 ((m65 j hj20).mpr q)
          rw [if_neg h5] at hrest
          exact hgo M2 _ _ _ _ _ (by omega) (by omega) hrest hP hS hl
        · have h5 : j % 6 = 5 := (m65 j hj20).mp c2
          rw [if_pos h5] at hrest
          obtain ⟨M3, hah, hRel3⟩ := hrest
          refine lv_aload_n C.1 C.2.1 dL_law_230 rfl (lv_at hl 4 rfl) ?_
          refine lv_iload C.1 C.2.1 dL_law_231 (lv_at hl 0 rfl) ?_
          refine lv_iconst (v := 2) C.1 C.2.1 dL_law_233 (by decide) ?_
          refine lv_ishr C.1 C.2.1 dL_law_234 ?_
          refine lv_iload C.1 C.2.1 dL_law_235 (lv_at hl 1 rfl) ?_
          refine lv_iconst (v := 2) C.1 C.2.1 dL_law_237 (by decide) ?_
          refine lv_ishr C.1 C.2.1 dL_law_238 ?_
          refine lv_aload_n C.1 C.2.1 dL_law_239 rfl (lv_at hl 5 rfl) ?_
          refine lv_aload_n C.1 C.2.1 dL_law_240 rfl (lv_at hl 6 rfl) ?_
          refine lv_aload C.1 C.2.1 dL_law_241 (lv_at hl 7 rfl) ?_
          refine lv_aload C.1 C.2.1 dL_law_243 (lv_at hl 8 rfl) ?_
          refine lv_aload C.1 C.2.1 dL_law_245 (lv_at hl 9 rfl) ?_
          refine kcic (kSc (As := [.ref (wAd w 0), .int (y >>> (2 &&& 31)), .int (x >>> (2 &&& 31)), .ref (wAd w 90), .ref (wAd w 91), .ref (wAd w 92), .ref (wAd w 93), .ref (wAd w 94)]) (rest := []) C hl.1 hP hS (c_L_ahead w l C.2.2.2.2.2.2.2.2 hN (L := L) hah) (gS q506 q507 q0 q508) hd_L_ahead ⟨rfl, rfl⟩ ⟨Nat.le_of_ble_eq_true rfl, Nat.le_of_ble_eq_true rfl⟩ rfl rfl (Nat.le_of_ble_eq_true rfl) dL_law_247 ⟨by omega, by omega⟩) hS (fun H locs hP hS => ?_)
          refine lv_if_ne (tgt := 255) C.1 C.2.1 dL_law_250 (by decide) (fun c1 => ?_) (fun c1 => absurd c1 (show ¬ (1 : Int32) = 0 by decide))
          exact hgo M3 _ _ _ _ _ (by omega) (by omega) hRel3 hP hS hl
      refine lv_aload_n C.1 C.2.1 dL_law_161 rfl (lv_at hl 4 rfl) ?_
      refine lv_iload C.1 C.2.1 dL_law_162 (lv_at hl 2 rfl) ?_
      refine lv_iconst (v := 3) C.1 C.2.1 dL_law_164 (by decide) ?_
      refine lv_icmp_ge (tgt := 172) C.1 C.2.1 dL_law_165 (by decide) (fun c3 => ?_) (fun c3 => ?_)
      · have h3 : ¬ j < 3 := fun q => by have a1 := Int32.le_iff_toInt_le.mp c3; have a2 := Int32.lt_iff_toInt_lt.mp ((ml3 j hj20).mpr q); omega
        rw [if_neg h3] at ha
        refine lv_iload C.1 C.2.1 dL_law_172 (lv_at hl 1 rfl) ?_
        refine lv_bipush (v := 13) C.1 C.2.1 dL_law_174 (by decide) ?_
        refine lv_ishr C.1 C.2.1 dL_law_176 ?_
        refine lv_bipush (v := 16) C.1 C.2.1 dL_law_177 (by decide) ?_
        refine kci (kS (As := [.int (x >>> (13 &&& 31)), .int 16]) (rest := [.ref (wAd w 0)]) C hl.1 hP hS (c_L_at w l C.2.2.2.2.2.2.2.2 (L := L) ha) (gS q384 q385 q0 q386) hd_L_at ⟨rfl, rfl⟩ ⟨Nat.le_of_ble_eq_true rfl, Nat.le_of_ble_eq_true rfl⟩ rfl rfl (Nat.le_of_ble_eq_true rfl) dL_law_179 ⟨by omega, by omega⟩) hS (fun H locs hP hS => ?_)
        exact hact9 H locs hP hS
      · have h3 : j < 3 := (ml3 j hj20).mp (Int32.lt_iff_toInt_lt.mpr (by have a1 : ¬ (3 : Int32).toInt ≤ (nI j).toInt := fun q => c3 (Int32.le_iff_toInt_le.mpr q); omega))
        rw [if_pos h3] at ha
        subst ha
        refine lv_iconst (v := 0) C.1 C.2.1 dL_law_168 (by decide) ?_
        refine lv_goto (tgt := 182) C.1 C.2.1 dL_law_169 (by decide) ?_
        exact hact9 _ _ hP hS
set_option maxHeartbeats 4000000 in
set_option maxRecDepth 100000 in
theorem law_head {w : WT} {p : Program} {l : Launch} {e : Env} {s : State} {m : MethodId} {below : List Frame} {meth : Method} {c : Code} {b Ln : Nat} {xs : Nat → Int32} (C : KC w p s m #[Value.ref b] meth c cL_law 10 RL (some .boolean)) (K : KW w s b Ln xs) (hN : wN w = 95) (hsz : wSz w = s.heap.size) (hb9 : c.code = code)
    {M0 : Mem} {Rel : Nat → Mem → Prop} (h0 : ∃ M1, f_L_told 3 M0 = some (1, M1) ∧ f_X8_count 10 M1 = some 0 ∧ Rel 0 M1) (hR : ∀ (j : Nat) (u v : Int32) (M : Mem), j < 20 → Rel j M → TurnOK j (u &&& 2147483647) (v &&& 2147483647) M (Rel (j + 1))) (hEnd : ∀ M, Rel 20 M → ∃ r, f_X8_count 10 M = some r ∧ 0 < r) :
    ∀ (H : Heap) (locs : List Loc) (ls : Array Slot), va_P (wD w) vwCl (pic w M0 L0) H → va_S (wA w) s.heap H locs → lv_has ls 10 [(0, .ref b), (1, .ref (wAd w 0)), (2, .ref (wAd w 90)), (3, .ref (wAd w 91)), (4, .ref (wAd w 92)), (5, .ref (wAd w 93)), (6, .ref (wAd w 94))] →
      W p l e room_1 s m #[Value.ref b] below meth c H locs 1000 20000 (lw_Z below #[Value.ref b] s) (F0 m 96 ls []) := by
  intro H locs ls hP hS hl
  obtain ⟨M1, ht1, hc1, hR0⟩ := h0
  refine lv_aload_n C.1 C.2.1 dL_law_96 rfl (lv_at hl 1 rfl) ?_
  refine lv_iconst (v := 3) C.1 C.2.1 dL_law_97 (by decide) ?_
  refine lv_aload_n C.1 C.2.1 dL_law_98 rfl (lv_at hl 2 rfl) ?_
  refine lv_aload_n C.1 C.2.1 dL_law_99 rfl (lv_at hl 3 rfl) ?_
  refine lv_aload C.1 C.2.1 dL_law_100 (lv_at hl 4 rfl) ?_
  refine lv_aload C.1 C.2.1 dL_law_102 (lv_at hl 5 rfl) ?_
  refine lv_aload C.1 C.2.1 dL_law_104 (lv_at hl 6 rfl) ?_
  refine kcic (kSc (As := [.ref (wAd w 0), .int 3, .ref (wAd w 90), .ref (wAd w 91), .ref (wAd w 92), .ref (wAd w 93), .ref (wAd w 94)]) (rest := []) C hl.1 hP hS (c_L_told w l C.2.2.2.2.2.2.2.2 hN (L := L0) ht1) (gS q387 q388 q0 q389) hd_L_told ⟨rfl, rfl⟩ ⟨Nat.le_of_ble_eq_true rfl, Nat.le_of_ble_eq_true rfl⟩ rfl rfl (Nat.le_of_ble_eq_true rfl) dL_law_106 ⟨Nat.le_of_ble_eq_true rfl, Nat.le_of_ble_eq_true rfl⟩) hS (fun H locs hP hS => ?_)
  refine lv_if_eq (tgt := 121) C.1 C.2.1 dL_law_109 (by decide) (fun c1 => absurd c1 (show ¬ (1 : Int32) = 0 by decide)) (fun c1 => ?_)
  refine lv_aload_n C.1 C.2.1 dL_law_112 rfl (lv_at hl 1 rfl) ?_
  refine lv_bipush (v := 10) C.1 C.2.1 dL_law_113 (by decide) ?_
  refine kci (kV (As := [.int 10]) (rest := []) C hl.1 hP hS (c_X8_count w l C.2.2.2.2.2.2.2.2 (L := L0) hc1) (gV q292 q293 q294 q1 q295) hd_X8_count (C9 C (lt_NoisePost h0_NoisePost)) (ob_NoisePost h0_NoisePost w L0 _) rfl ⟨rfl, rfl⟩ ⟨Nat.le_of_ble_eq_true rfl, Nat.le_of_ble_eq_true rfl⟩ rfl rfl (Nat.le_of_ble_eq_true rfl) dL_law_115 ⟨Nat.le_of_ble_eq_true rfl, Nat.le_of_ble_eq_true rfl⟩) hS (fun H locs hP hS => ?_)
  refine lv_if_eq (tgt := 123) C.1 C.2.1 dL_law_118 (by decide) (fun c1 => ?_) (fun c1 => absurd rfl c1)
  refine lv_iconst (v := 0) C.1 C.2.1 dL_law_123 (by decide) ?_
  refine lv_istore (lv' := [(7, .int 0), (0, .ref b), (1, .ref (wAd w 0)), (2, .ref (wAd w 90)), (3, .ref (wAd w 91)), (4, .ref (wAd w 92)), (5, .ref (wAd w 93)), (6, .ref (wAd w 94))]) C.1 C.2.1 dL_law_124 hl (by decide) rfl (fun ls hl => ?_)
  exact law_loop C K hN hsz hb9 Rel hR hEnd 20 0 (1000 + 20007) (20000 + 120258) M1 _ _ ls rfl (Nat.le_of_ble_eq_true rfl) (Nat.le_of_ble_eq_true rfl) hR0 hP hS hl
