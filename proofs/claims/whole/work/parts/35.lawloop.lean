/-! THE CLAIM OUT OF ONE WALK OF THE LAW'S BODY. Your part is whole_start (and what it stands on); all else here is the same for every law, but numbers. -/
def R_law : String := "NoisePostLaw"
def lw_P (b : Addr) (xs : List Int32) (args : Array Value) (s : State) : Prop := args = #[.ref b] ∧ s.IntsAt b xs ∧ xs.length ≤ 2048 ∧ (Jvm.Cond.and given_1 narrow_1).before args s = true
/-- what a walk over the start with the record d0 says of its end, said of the start itself -/
theorem lw_closed {s t : State} {o : Outcome} {d0 : Drawn} {L : List Loc} {k n : Nat} (hd0 : s.drawn.sameBut d0 lw_cs) (hv : ∃ v, o = .returned v) (hW : (s.setDrawn d0).WarmedH t.vm) (hs : (s.setDrawn d0).sameButNew ({ t with vm := s.vm } : State) L k n) : State.butDraws s t lw_cs (fun t1 => Framed s o t1 L k n) := by
  have h2 : t.drawn = d0 := congrArg State.drawn hs.1
  refine ⟨⟨hv, hW, State.sameButNew.setDrawn hs s.drawn⟩, ?_, by decide⟩
  rw [h2]
  exact hd0
def lw_Q (_ : Array Value) (s : State) (o : Outcome) (t : State) : Prop := o = .returned (some (.int 1)) ∧ State.butDraws s t lw_cs (fun t1 => Framed s o t1 [] 601024 7293034)
def lw_Z (below : List Frame) (a : Array Value) (s : State) : State → Prop := fun t => ∃ o, t.status = .running ∧ Ended t below o ∧ lw_Q a s o t
/-- the law's own end, with 1 on the stack, nothing written that was there before, its room as the claim has it; d0: the record of draws at this point (at the entry s.drawn: begin with 'refine W.base ?_' and 'have hd0 := Drawn.sameBut.refl s.drawn lw_cs') -/
theorem lw_ret {p : Program} {l : Launch} {e : Env} {s : State} {m : MethodId} {below : List Frame} {meth : Method} {c : Code} {b : Nat} {d0 : Drawn} (hd0 : s.drawn.sameBut d0 lw_cs) (hx : p.tables.exec = Jvm.exec) (hb : c.code = code) (hr : meth.sig.returnType = ret) (hlocks : meth.locks = false) {pc : Nat} {H : Heap} {ls : Array Slot} (hdg : decode code pc = .ok (.ireturn, 1)) : W p l e room_1 (s.setDrawn d0) m #[Value.ref b] below meth c H [] 601024 7293034 (lw_Z below #[Value.ref b] s) (F0 m pc ls [.int 1]) := by
  intro T hT X
  obtain ⟨fs, hret, hrun, hended, hW, hframe⟩ := X.leave (v := some (.int 1)) (hlocks := hlocks) (fun h => by rw [hr] at h; cases h)
  have hmeth' : T.vm.method? m = some meth := X.method'
  refine ⟨T.setFrames fs, ?_, .returned (some (.int 1)), hrun, hended, rfl, lw_closed hd0 ⟨_, rfl⟩ hW hframe⟩
  jvm_step X.here [X.here.top, hx, hb, hdg, hmeth', hr, ret, narrow_b1]
  (try refine ⟨rfl, ?_⟩); (try refine ⟨rfl, ?_⟩)
  first | (intro acts; rw [hret _ acts rfl rfl rfl]) | rw [hret _ _ rfl rfl rfl]
  exact Steps.refl _
/-- what holds at the law's entry: the machine, the code, the tables' words (any of lw_tbl by 'hts w (by decide +kernel)'), the script of L ints xs at the cell b, what the Statement gives of the start (any of its parts by flat_of_before) -/
def lw_At (p : Program) (s : State) (m : MethodId) (meth : Method) (c : Code) (b L : Nat) (xs : Nat → Int32) : Prop :=
  p.tables.exec = Jvm.exec ∧ c.code = code ∧ meth.sig.returnType = ret ∧ c.maxLocals = 9 ∧ s.vm.findClass R_law = some m.cls ∧ (∀ w ∈ lw_tbl, w.before #[Value.ref b] s = true) ∧ va_X b L xs s s.heap ∧ b < s.heap.size ∧ meth.locks = false ∧ (Jvm.Cond.and given_1 narrow_1).before #[Value.ref b] s = true
/-! the law's loop, by what its cases do -/
def lcs (k : Nat) (a1 a2 a3 : Int32) (M : Mem) (L : Lng) : Option ((Mem × Lng) ⊕ Int32) := match k with
  | 0 => f_lc0 a1 a2 a3 M L
  | 1 => f_lc1 a1 a2 a3 M L
  | 2 => f_lc2 a1 a2 a3 M L
  | 3 => f_lc3 a1 a2 a3 M L
  | 4 => f_lc4 a1 a2 a3 M L
  | 5 => f_lc5 a1 a2 a3 M L
  | 6 => f_lc6 a1 a2 a3 M L
  | 7 => f_lc7 a1 a2 a3 M L
  | 8 => f_lc8 a1 a2 a3 M L
  | 9 => f_lc9 a1 a2 a3 M L
  | 10 => f_lc10 a1 a2 a3 M L
  | 11 => f_lc11 a1 a2 a3 M L
  | 12 => f_lc12 a1 a2 a3 M L
  | 13 => f_lc13 a1 a2 a3 M L
  | 14 => f_lc14 a1 a2 a3 M L
  | 15 => f_lc15 a1 a2 a3 M L
  | 16 => f_lc16 a1 a2 a3 M L
  | 17 => f_lc17 a1 a2 a3 M L
  | 18 => f_lc18 a1 a2 a3 M L
  | 19 => f_lc19 a1 a2 a3 M L
  | 20 => f_lc20 a1 a2 a3 M L
  | 21 => f_lc21 a1 a2 a3 M L
  | _ => f_lc22 a1 a2 a3 M L
theorem gt_le {Ln j : Nat} (hL : Ln ≤ 2048) (hj : 4 * j ≤ Ln) (h : ¬ nI Ln - 4 < nI (4 * j)) : 4 * j + 4 ≤ Ln := by
  have e1 : (nI Ln - 4).toInt = (Ln : Int) - 4 := pk_sub_toInt (a := Ln) (b := 4) (by omega) (by decide)
  have e2 : (nI (4 * j)).toInt = ((4 * j : Nat) : Int) := nI_toInt (by omega)
  have h2 : ¬ (nI Ln - 4).toInt < (nI (4 * j)).toInt := fun q => h (Int32.lt_iff_toInt_lt.mpr q)
  rw [e1, e2] at h2
  omega
theorem and31 (x : Int32) : ∃ r : Nat, r < 32 ∧ x &&& 31 = nI r := by
  obtain ⟨r, hr, h⟩ := pk_andE x (m := 31) 5 (by decide)
  exact ⟨r, hr, h⟩
set_option maxHeartbeats 4000000 in
set_option maxRecDepth 100000 in
theorem law_loop {w : WT} {p : Program} {l : Launch} {e : Env} {s : State} {m : MethodId} {below : List Frame} {meth : Method} {c : Code} {b Ln : Nat} {xs : Nat → Int32} (C : KC w p s m #[Value.ref b] meth c cL_law 9 RL (some .boolean)) (hfl : l.stackTraces = false) (K : KW w s b Ln xs) (hsz : wSz w = s.heap.size)
    (Rel : Mem → Lng → Prop) (hR : ∀ (k : Nat) (a1 a2 a3 : Int32) (M : Mem) (L : Lng), k < 23 → Rel M L → ∃ out : Mem × Lng, lcs k a1 a2 a3 M L = some (.inl out) ∧ Rel out.1 out.2) (hb9 : c.code = code)
    {c0 s0 : Nat} (hc0 : c0 + 512 ≤ room_1.cells) (hs0 : s0 + 6 * 512 ≤ room_1.slots) :
    ∀ (n j : Nat) (M : Mem) (L : Lng) (H : Heap) (locs : List Loc) (ls : Array Slot), Ln + 4 ≤ 4 * (j + n) → 4 * j ≤ Ln → Rel M L → va_P (wD w) vwCl (pic w M L) H → va_S (wA w) s.heap H locs → lv_has ls 9 [(0, .ref b), (1, .ref (wAd w 0)), (2, .ref (wAd w 90)), (3, .ref (wAd w 108)), (4, .int (nI (4 * j)))] →
      W p l e room_1 s m #[Value.ref b] below meth c H locs (c0 + j) (s0 + 6 * j) (lw_Z below #[Value.ref b] s) (F0 m 23 ls []) := by
  have hLn := K.2.2.2.2.2
  intro n
  induction n with
  | zero => intro j M L H locs ls h1 h2; omega
  | succ n ih =>
    intro j M L H locs ls h1 h2 hRel hP hS hl
    refine lv_iload C.1 C.2.1 dL_law_23 (lv_at hl 4 rfl) ?_
    refine lv_aload_n C.1 C.2.1 dL_law_25 rfl (lv_at hl 0 rfl) ?_
    refine va_slen C.1 C.2.1 K.2.2.1 K.2.2.2.1 (fun h => absurd (Nat.lt_of_lt_of_le K.2.2.2.2.1 h) (Nat.lt_irrefl _)) hS dL_law_26 ?_
    refine lv_iconst (v := 4) C.1 C.2.1 dL_law_27 (by decide) ?_
    refine lv_isub C.1 C.2.1 dL_law_28 ?_
    refine lv_icmp_gt (tgt := 1391) C.1 C.2.1 dL_law_29 (by decide) (fun cn => ?_) (fun cn => ?_)
    · refine lv_iconst (v := 1) C.1 C.2.1 dL_law_1391 (by decide) ?_
      refine va_forget (fun q hq => by rw [← hsz]; exact hS.2.2 q hq) ?_
      refine W.widen (k := 601024) (n := 7293034) (by have : room_1.cells = 601024 := rfl; omega) (by have : room_1.slots = 7293034 := rfl; omega) ?_
      exact lw_ret (d0 := s.drawn) (Drawn.sameBut.refl s.drawn lw_cs) C.1 hb9 C.2.2.2.2.2.1 C.2.2.2.2.2.2.1 dL_law_1392
    · have hj4 : 4 * j + 4 ≤ Ln := gt_le hLn h2 cn
      refine lv_aload_n C.1 C.2.1 dL_law_32 rfl (lv_at hl 0 rfl) ?_
      refine lv_iload C.1 C.2.1 dL_law_33 (lv_at hl 4 rfl) ?_
      refine k_sld C K hS (4 * j) (by omega) rfl rfl dL_law_35 ?_
      refine lv_bipush (v := 31) C.1 C.2.1 dL_law_36 (by decide) ?_
      refine lv_iand C.1 C.2.1 dL_law_38 ?_
      have hc1 : c0 + j + 1 ≤ room_1.cells := by omega
      have hs1 : s0 + 6 * j + 6 ≤ room_1.slots := by omega
      have hgo : ∀ (M' : Mem) (L' : Lng), Rel M' L' → ∀ (H : Heap) (locs : List Loc) (ls : Array Slot), va_P (wD w) vwCl (pic w M' L') H → va_S (wA w) s.heap H locs → lv_has ls 9 [(0, .ref b), (1, .ref (wAd w 0)), (2, .ref (wAd w 90)), (3, .ref (wAd w 108)), (4, .int (nI (4 * j)))] → W p l e room_1 s m #[Value.ref b] below meth c H locs (c0 + j + 1) (s0 + 6 * j + 6) (lw_Z below #[Value.ref b] s) (F0 m 1385 ls []) := by
        intro M' L' hRel' H locs ls hP hS hl
        refine lv_iinc (v := nI (4 * (j + 1))) (lv' := [(4, .int (nI (4 * (j + 1)))), (0, .ref b), (1, .ref (wAd w 0)), (2, .ref (wAd w 90)), (3, .ref (wAd w 108))]) C.1 C.2.1 dL_law_1385 hl (k := 4) rfl (by rw [show (Int32.ofInt 4) = nI 4 from rfl, nI_add]; rfl) (by decide) rfl (fun ls hl => ?_)
        refine lv_goto (tgt := 23) C.1 C.2.1 dL_law_1388 (by decide) ?_
        have h9 := ih (j + 1) M' L' H locs ls (by omega) (by omega) hRel' hP hS (lv_sub hl [1, 2, 3, 4, 0] rfl)
        exact h9
      obtain ⟨r, hr, hx⟩ := and31 (xs (4 * j))
      rw [hx]
      rcases Nat.lt_or_ge r 23 with hlt | hge
      · obtain ⟨out, ho, hRo⟩ := hR r (xs (4 * j + 1)) (xs (4 * j + 2)) (xs (4 * j + 3)) M L hlt hRel
        rcases (show r = 0 ∨ r = 1 ∨ r = 2 ∨ r = 3 ∨ r = 4 ∨ r = 5 ∨ r = 6 ∨ r = 7 ∨ r = 8 ∨ r = 9 ∨ r = 10 ∨ r = 11 ∨ r = 12 ∨ r = 13 ∨ r = 14 ∨ r = 15 ∨ r = 16 ∨ r = 17 ∨ r = 18 ∨ r = 19 ∨ r = 20 ∨ r = 21 ∨ r = 22 by omega) with rfl | rfl | rfl | rfl | rfl | rfl | rfl | rfl | rfl | rfl | rfl | rfl | rfl | rfl | rfl | rfl | rfl | rfl | rfl | rfl | rfl | rfl | rfl
        · refine lv_tableIn (off := 105) (tgt := 144) C.1 C.2.1 dL_law_39 (by decide) (by decide) rfl (by decide) ?_
          exact w_lc0 C hfl K hj4 rfl rfl rfl hc1 hs1 ho (hgo _ _ hRo) _ _ _ hP hS hl
        · refine lv_tableIn (off := 173) (tgt := 212) C.1 C.2.1 dL_law_39 (by decide) (by decide) rfl (by decide) ?_
          exact w_lc1 C hfl K hj4 rfl rfl rfl hc1 hs1 ho (hgo _ _ hRo) _ _ _ hP hS hl
        · refine lv_tableIn (off := 253) (tgt := 292) C.1 C.2.1 dL_law_39 (by decide) (by decide) rfl (by decide) ?_
          exact w_lc2 C hfl K hj4 rfl rfl rfl hc1 hs1 ho (hgo _ _ hRo) _ _ _ hP hS hl
        · refine lv_tableIn (off := 333) (tgt := 372) C.1 C.2.1 dL_law_39 (by decide) (by decide) rfl (by decide) ?_
          exact w_lc3 C hfl K hj4 rfl rfl rfl hc1 hs1 ho (hgo _ _ hRo) _ _ _ hP hS hl
        · refine lv_tableIn (off := 389) (tgt := 428) C.1 C.2.1 dL_law_39 (by decide) (by decide) rfl (by decide) ?_
          exact w_lc4 C hfl K hj4 rfl rfl rfl hc1 hs1 ho (hgo _ _ hRo) _ _ _ hP hS hl
        · refine lv_tableIn (off := 445) (tgt := 484) C.1 C.2.1 dL_law_39 (by decide) (by decide) rfl (by decide) ?_
          exact w_lc5 C hfl K hj4 rfl rfl rfl hc1 hs1 ho (hgo _ _ hRo) _ _ _ hP hS hl
        · refine lv_tableIn (off := 501) (tgt := 540) C.1 C.2.1 dL_law_39 (by decide) (by decide) rfl (by decide) ?_
          exact w_lc6 C hfl K hj4 rfl rfl rfl hc1 hs1 ho (hgo _ _ hRo) _ _ _ hP hS hl
        · refine lv_tableIn (off := 557) (tgt := 596) C.1 C.2.1 dL_law_39 (by decide) (by decide) rfl (by decide) ?_
          exact w_lc7 C hfl K hj4 rfl rfl rfl hc1 hs1 ho (hgo _ _ hRo) _ _ _ hP hS hl
        · refine lv_tableIn (off := 570) (tgt := 609) C.1 C.2.1 dL_law_39 (by decide) (by decide) rfl (by decide) ?_
          exact w_lc8 C hfl K hj4 rfl rfl rfl hc1 hs1 ho (hgo _ _ hRo) _ _ _ hP hS hl
        · refine lv_tableIn (off := 583) (tgt := 622) C.1 C.2.1 dL_law_39 (by decide) (by decide) rfl (by decide) ?_
          exact w_lc9 C hfl K hj4 rfl rfl rfl hc1 hs1 ho (hgo _ _ hRo) _ _ _ hP hS hl
        · refine lv_tableIn (off := 627) (tgt := 666) C.1 C.2.1 dL_law_39 (by decide) (by decide) rfl (by decide) ?_
          exact w_lc10 C hfl K hj4 rfl rfl rfl hc1 hs1 ho (hgo _ _ hRo) _ _ _ hP hS hl
        · refine lv_tableIn (off := 671) (tgt := 710) C.1 C.2.1 dL_law_39 (by decide) (by decide) rfl (by decide) ?_
          exact w_lc11 C hfl K hj4 rfl rfl rfl hc1 hs1 ho (hgo _ _ hRo) _ _ _ hP hS hl
        · refine lv_tableIn (off := 739) (tgt := 778) C.1 C.2.1 dL_law_39 (by decide) (by decide) rfl (by decide) ?_
          exact w_lc12 C hfl K hj4 rfl rfl rfl hc1 hs1 ho (hgo _ _ hRo) _ _ _ hP hS hl
        · refine lv_tableIn (off := 807) (tgt := 846) C.1 C.2.1 dL_law_39 (by decide) (by decide) rfl (by decide) ?_
          exact w_lc13 C hfl K hj4 rfl rfl rfl hc1 hs1 ho (hgo _ _ hRo) _ _ _ hP hS hl
        · refine lv_tableIn (off := 875) (tgt := 914) C.1 C.2.1 dL_law_39 (by decide) (by decide) rfl (by decide) ?_
          exact w_lc14 C hfl K hj4 rfl rfl rfl hc1 hs1 ho (hgo _ _ hRo) _ _ _ hP hS hl
        · refine lv_tableIn (off := 931) (tgt := 970) C.1 C.2.1 dL_law_39 (by decide) (by decide) rfl (by decide) ?_
          exact w_lc15 C hfl K hj4 rfl rfl rfl hc1 hs1 ho (hgo _ _ hRo) _ _ _ hP hS hl
        · refine lv_tableIn (off := 987) (tgt := 1026) C.1 C.2.1 dL_law_39 (by decide) (by decide) rfl (by decide) ?_
          exact w_lc16 C hfl K hj4 rfl rfl rfl hc1 hs1 ho (hgo _ _ hRo) _ _ _ hP hS hl
        · refine lv_tableIn (off := 1043) (tgt := 1082) C.1 C.2.1 dL_law_39 (by decide) (by decide) rfl (by decide) ?_
          exact w_lc17 C hfl K hj4 rfl rfl rfl hc1 hs1 ho (hgo _ _ hRo) _ _ _ hP hS hl
        · refine lv_tableIn (off := 1099) (tgt := 1138) C.1 C.2.1 dL_law_39 (by decide) (by decide) rfl (by decide) ?_
          exact w_lc18 C hfl K hj4 rfl rfl rfl hc1 hs1 ho (hgo _ _ hRo) _ _ _ hP hS hl
        · refine lv_tableIn (off := 1179) (tgt := 1218) C.1 C.2.1 dL_law_39 (by decide) (by decide) rfl (by decide) ?_
          exact w_lc19 C hfl K hj4 rfl rfl rfl hc1 hs1 ho (hgo _ _ hRo) _ _ _ hP hS hl
        · refine lv_tableIn (off := 1235) (tgt := 1274) C.1 C.2.1 dL_law_39 (by decide) (by decide) rfl (by decide) ?_
          exact w_lc20 C hfl K hj4 rfl rfl rfl hc1 hs1 ho (hgo _ _ hRo) _ _ _ hP hS hl
        · refine lv_tableIn (off := 1291) (tgt := 1330) C.1 C.2.1 dL_law_39 (by decide) (by decide) rfl (by decide) ?_
          exact w_lc21 C hfl K hj4 rfl rfl rfl hc1 hs1 ho (hgo _ _ hRo) _ _ _ hP hS hl
        · refine lv_tableIn (off := 1332) (tgt := 1371) C.1 C.2.1 dL_law_39 (by decide) (by decide) rfl (by decide) ?_
          exact w_lc22 C hfl K hj4 rfl rfl rfl hc1 hs1 ho (hgo _ _ hRo) _ _ _ hP hS hl
      · refine lv_tableOut (tgt := 1385) C.1 C.2.1 dL_law_39 (Or.inr (by rw [nI_toInt (by omega)]; omega)) (by decide) ?_
        refine W.widen (k := c0 + j + 1) (n := s0 + 6 * j + 6) (Nat.le_add_right _ _) (Nat.le_add_right _ _) ?_
        exact hgo M L hRel _ _ _ hP hS hl
