/-! the long field; throws of the class -/
theorem rset_self (M : Mem) (c : Nat) : rset M c (M c) = M := by
  funext c'
  unfold rset
  split
  · rename_i h
    rw [h]
  · rfl
theorem cellX_long {w : WT} {L L' : Lng} (h : L' 1 = L 1) {c : Nat} (hc : c ≠ 90) (row : Nat → Int32) : cellX w L' c row = cellX w L c row := by
  unfold cellX objX
  simp [hc, h]
section RowsT
variable {w : WT} {p : Program} {l : Launch} {e : Env} {R : Room} {s : State} {m : MethodId} {args : Array Value} {below : List Frame} {meth : Method} {c : Code} {H : Heap} {locs : List Loc} {cells slots : Nat} {Q : State → Prop}
variable {cc : ByteArray} {nL pc : Nat} {own : String} {ret : Option FieldType} {ls : Array Slot} {rest : List Value} {M M' : Mem} {L L' : Lng}
theorem k_putl (C : KC w p s m args meth c cc nL own ret) (hP : va_P (wD w) vwCl (pic w M L) H) (hS : va_S (wA w) s.heap H locs) (ho : own = RX9) {index : Nat} (hlink : Cond.fieldLink own index "NoisePostModel" "h" "J" ∈ BG) {v : Int64} (hf : stL L v = some L') (hdg : decode cc pc = .ok (.putfield index, 3))
    (kk : ∀ (H1 : Heap) (locs1 : List Loc), va_P (wD w) vwCl (pic w M L') H1 → va_S (wA w) s.heap H1 locs1 → W p l e R s m args below meth c H1 locs1 cells slots Q (F0 m (pc + 3) ls rest)) :
    W p l e R s m args below meth c H locs cells slots Q (F0 m pc ls (.long v :: .ref (wAd w 90) :: rest)) := by
  cases hf
  refine k_put (id := 90) (L' := fun k => if k = 0 then v else L k) (row := M 90) C hP hS (by decide) (ob_Model h0_Model w L _) rfl iX9 tyX9 tyX9_ok nmX9 27 (by decide) hlink rfl rfl rfl (Nat.le_of_ble_eq_true rfl) ?_ ?_ hdg ?_
  · rw [ob_Model h0_Model]
    simp [fs_Model]
  · intro c _ hn
    exact cellX_long (L := L) (L' := fun k => if k = 0 then v else L k) (if_neg (by decide)) hn _
  · rw [rset_self]
    exact kk
def TE : Nat → String := fun k => ["java/lang/IndexOutOfBoundsException", "java/lang/IllegalArgumentException", "java/lang/IllegalStateException"].getD k ""
def TI : Nat → Nat := fun k => [55, 66, 94].getD k 0
def upN : List String := ["java/lang/RuntimeException", "java/lang/Exception"]
def DCL : List Cond := [.declares ⟨"java/lang/RuntimeException", "<init>", "(Ljava/lang/String;)V"⟩, .declares ⟨"java/lang/Exception", "<init>", "(Ljava/lang/String;)V"⟩, .declares ⟨"java/lang/Throwable", "<init>", "(Ljava/lang/String;)V"⟩, .castable "java/lang/IndexOutOfBoundsException" "java/lang/IndexOutOfBoundsException", .castable "java/lang/IllegalArgumentException" "java/lang/IllegalArgumentException", .castable "java/lang/IllegalStateException" "java/lang/IllegalStateException"]
def SRL : List (Nat × String) := [(53, "no such setting"), (64, "value out of range"), (84, "level, wind or minutes out of range"), (92, "too many minutes"), (102, "no such minute"), (104, "level or wind out of range"), (121, "minutes out of range"), (127, "minute out of range"), (132, "too many complaints"), (140, "no such complaint"), (154, "code out of range"), (159, "the buffer is full"), (172, "not a complete text"), (188, "no saved state"), (193, "what out of range"), (199, "no such exceedance"), (207, "level out of range"), (212, "percent out of range"), (229, "value or what out of range"), (240, "exceedances out of range")]
theorem at_tbl : ∀ k, k < 3 → ∀ x ∈ (vx_atS RX8 (TI k) (TE k) upN).filter goodWord, x ∈ lw_tbl := by decide +kernel
theorem at_dcl : ∀ k, k < 3 → ∀ x ∈ (vx_atS RX8 (TI k) (TE k) upN).filter (fun x => !goodWord x), x ∈ DCL := by decide +kernel
theorem at_ot : ∀ k, k < 3 → ∀ x ∈ vx_atS RX8 (TI k) (TE k) upN, vx_ot x = true := by decide +kernel
theorem te_fit : ∀ k, k < 3 → Bundle.fit (TE k) = true := by decide +kernel
theorem up_fit : ∀ n ∈ upN, Bundle.fit n = true := by decide +kernel
def TF (w : WT) (U : State) : Prop := vx_Zq Bundle.tN "UNASSIGNED_STACK" Bundle.steD (wA w) U U.heap ∧ vx_Zq Bundle.tN "SUPPRESSED_SENTINEL" Bundle.listD (wA w) U U.heap ∧ (∀ x ∈ DCL, va_Nw x U) ∧ ∀ q ∈ SRL, ∃ a, vk_R RX8 q.1 q.2 a U
theorem dcl_warm {s U : State} (hW : s.WarmedH U.vm) (h : ∀ x ∈ DCL, va_Nw x s) : ∀ x ∈ DCL, va_Nw x U := by
  unfold DCL at h ⊢
  simp only [List.forall_mem_cons] at h ⊢
  obtain ⟨h1, h2, h3, h4, h5, h6, -⟩ := h
  exact ⟨h1.warmD hW, h2.warmD hW, h3.warmD hW, h4.warmC hW, h5.warmC hW, h6.warmC hW, fun _ h => nomatch h⟩
theorem dcl_same {s U : State} (hv : s.vm = U.vm) (h : ∀ x ∈ DCL, va_Nw x s) : ∀ x ∈ DCL, va_Nw x U := by
  have ho : ∀ x ∈ DCL, x.onTables = true := List.all_eq_true.mp (by decide +kernel : DCL.all (fun x => x.onTables) = true)
  exact fun x hx => (h x hx).same (ho x hx) hv
theorem TF.warm {w : WT} {s U : State} {locs : List Loc} (h : TF w s) (hW : s.WarmedH U.vm) (hS : va_S (wA w) s.heap U.heap locs) : TF w U :=
  ⟨vx_Zq.moved hW.alike (h.1.kept hS.2.1), vx_Zq.moved hW.alike (h.2.1.kept hS.2.1), dcl_warm hW h.2.2.1, fun q hq => by
    obtain ⟨a, ha⟩ := h.2.2.2 q hq
    exact ⟨a, vk_R.warm hW ha⟩⟩
theorem TF.same {w : WT} {s U : State} (h : TF w s) (hv : s.vm = U.vm) (hh : s.heap = U.heap) : TF w U := by
  have ha : s.vm.Alike U.vm := by rw [hv]; exact Vm.Alike.refl _
  refine ⟨?_, ?_, dcl_same hv h.2.2.1, fun q hq => ?_⟩
  · rw [← hh]; exact vx_Zq.moved ha h.1
  · rw [← hh]; exact vx_Zq.moved ha h.2.1
  · obtain ⟨a, h9⟩ := h.2.2.2 q hq
    exact ⟨a, vk_R.same hv.symm h9⟩
def PREX (w : WT) (av : List Value) (M : Mem) (L : Lng) : Array Value → State → Prop := va_Pc av (fun U => (EF w U ∧ TF w U) ∧ va_P (wD w) vwCl (pic w M L) U.heap)
theorem blindPREX (w : WT) (av : List Value) (M : Mem) (L : Lng) : FrameBlind (PREX w av M L) := by
  intro a U g mk h
  exact ⟨h.1, ⟨h.2.1.1.same rfl rfl, h.2.1.2.same rfl rfl⟩, h.2.2⟩
def QX (w : WT) (o : (Nat × Mem) ⊕ (Int32 × Mem)) (L : Lng) : Array Value → State → Outcome → State → Prop := match o with
  | .inl _ => fun _ _ _ _ => False
  | .inr r => QI w r.1 r.2 L
def XX (w : WT) (o : (Nat × Mem) ⊕ (Int32 × Mem)) (L : Lng) : String → State → State → Prop := vx_X (fun u : Nat × Mem => o = .inl u ∧ u.1 < 3) (fun E u t => E = TE u.1 ∧ PW w (u.2, L) t) (wA w)
def xo (o : Nat ⊕ Int32) (M : Mem) : (Nat × Mem) ⊕ (Int32 × Mem) := match o with
  | .inl k => .inl (k, M)
  | .inr r => .inr (r, M)
/-- what a throwing body stands on besides -/
def KT (w : WT) (l : Launch) (s : State) (c : Code) : Prop := TF w s ∧ (∀ x ∈ c.exceptionTable.toList, False) ∧ l.stackTraces = false
theorem k_thr (C : KC w p s m args meth c cc nL RX8 ret) (T : KT w l s c) (hP : va_P (wD w) vwCl (pic w M L) H) (hS : va_S (wA w) s.heap H locs) (hsz : ls.size = nL) {Qc : Array Value → State → Outcome → State → Prop} (k : Nat) (hk3 : k < 3) {ik is : Nat} {text : String}
    (hk : Cond.classLink RX8 ik (TE k) ∈ BG) (hini : Cond.initialized (TE k) ∈ BG) (hstr : (is, text) ∈ SRL)
    (d0 : decode cc pc = .ok (.new ik, 3)) (d3 : decode cc (pc + 3) = .ok (.dup, 1)) (d4 : decode cc (pc + 4) = .ok (.ldc is, 2)) (d6 : decode cc (pc + 6) = .ok (.invokespecial (TI k), 3)) (d9 : decode cc (pc + 9) = .ok (.athrow, 1))
    (hRframes : 5 < R.frames) (hRlocals : 82 ≤ R.locals) (hRcells : 1 ≤ R.cells) (hRslots : 6 ≤ R.slots) :
    W p l e R s m args below meth c H locs 0 0 (vx_MQ below Qc (XX w (.inl (k, M)) L) args s 1 6 (wA w)) (F0 m pc ls []) := by
  obtain ⟨sa, hsa⟩ := T.1.2.2.2 _ hstr
  refine vx_throwS (names := upN) C.1 C.2.1 T.2.2 C.2.2.2.1 (te_fit k hk3) up_fit (C.2.2.2.2.1 _ hk) (C.2.2.2.2.1 _ hini) hsa ?_ ?_ T.1.1 T.1.2.1 hS (hsz.trans C.2.2.1.symm) d0 d3 d4 d6 d9 (fun x hx => (T.2.1 x hx).elim) hRframes hRlocals hRcells hRslots C.2.2.2.2.2.2.1 ?_ hS.2.2 (Nat.le_refl _) (Nat.le_refl _)
  · refine vx_hat (fun x hx => C.2.2.2.2.1 _ (bg_in (at_tbl k hk3 x hx) (List.mem_filter.mp hx).2)) (at_dcl k hk3) (fun x hx => (T.1.2.2.1 x hx).use (List.all_eq_true.mp (by decide +kernel : DCL.all (fun x => x.onTables) = true) x hx))
  · intro x hx
    rcases List.mem_cons.mp hx with rfl | hx
    · rfl
    · rcases List.mem_cons.mp hx with rfl | hx
      · rfl
      · exact at_ot k hk3 x hx
  · intro t _ hz hq
    refine ⟨(k, M), ⟨rfl, hk3⟩, ⟨rfl, ?_⟩, Nat.le_trans hS.1 hz, fun q h1 h2 => (hq q (Nat.lt_of_lt_of_le h1 hS.1)).trans (hS.2.1 q h1 h2)⟩
    exact hP.kept (fun k x hx => hq x.1 (hP k x hx).lt)
theorem kEntX {y : MethodName} {rm : Room} {av : List Value} {Qc : Array Value → State → Outcome → State → Prop} {XC : String → State → State → Prop} (hw : WOK w) (hfl : l.stackTraces = false) (hy : plainName y.cls = true) (hc : y.cls = own) (hlen : (lg_sl av).length ≤ nL)
    (body : ∀ (p : Program) (e : Env) (s : State) (m : MethodId) (args : Array Value) (below : List Frame) (meth : Method) (c : Code), KC w p s m args meth c cc nL own ret → KT w l s c → ∀ ls : Array Slot, lv_has ls nL (lv_args 0 av) → va_P (wD w) vwCl (pic w M L) s.heap →
      W p l e rm s m args below meth c s.heap [] 0 0 (vx_MQ below Qc XC args s 1 6 (wA w)) (F0 m 0 ls [])) :
    vx_Met l y (Cond.code y cc nL ret :: BG) rm (PREX w av M L) Qc XC 1 6 (wA w) := by
  refine vx_ofW (cc := cc) (maxL := nL) (ret := ret) hy rfl ?_
  intro p e s m args below meth c s₁ B hml htab hv
  obtain ⟨rfl, hE, hP⟩ := hv
  rw [lg_entry_eq]
  have hts := atoms_spec (ws := Cond.code y cc nL ret :: BG) B.pre
  subst hc
  exact body p e s m _ below meth c ⟨B.exec, B.bytes, hml, findClass_of_methodNamed B.named, fun x hx => hts x (List.mem_cons_of_mem _ hx), B.returns, B.notSynchronized, hE.1, hw⟩ ⟨hE.2, htab, hfl⟩ _ (lv_entry av hlen) hP
theorem krix {r : Int32} (C : KC w p s m args meth c cc nL own (some .int)) (hP : va_P (wD w) vwCl (pic w M L) H) (hS : va_S (wA w) s.heap H locs) {XC : String → State → State → Prop} (hdg : decode cc pc = .ok (.ireturn, 1)) :
    W p l e R s m args below meth c H locs 0 0 (vx_MQ below (QX w (.inr (r, M)) L) XC args s 1 6 (wA w)) (F0 m pc ls [.int r]) :=
  W.widen (k := 1) (n := 6) (Nat.zero_le _) (Nat.zero_le _) (vx_ret (kri C hP hS hdg))
end RowsT
