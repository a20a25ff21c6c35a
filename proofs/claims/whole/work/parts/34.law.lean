/-! the law's loop: a call of the class, a call of the model, a comparison -/
theorem gBW {y : MethodName} {b : ByteArray} {n : Nat} {r : Option FieldType} {hh : List (Nat × Nat × Nat × Nat)} (h : Cond.codeWith y b n r hh ∈ BG) : GoodIn BG (Cond.codeWith y b n r hh :: BG) := by
  intro x hx
  rcases List.mem_cons.mp hx with rfl | hx
  · exact ⟨h, good_of_word (bg_good _ h)⟩
  · exact ⟨hx, good_of_word (bg_good _ hx)⟩
section RowsW
variable {w : WT} {p : Program} {l : Launch} {e : Env} {R : Room} {s : State} {m : MethodId} {args : Array Value} {below : List Frame} {meth : Method} {c : Code} {H : Heap} {locs : List Loc} {cells slots mc ms : Nat} {Q : State → Prop}
variable {cc : ByteArray} {nL pc : Nat} {own : String} {ret : Option FieldType} {ls : Array Slot} {rest st0 : List Value} {M M' : Mem} {L L' : Lng}
variable {y : MethodName} {bytes : ByteArray} {maxL n index : Nat} {rt : Option FieldType} {rm : Room} {Qc : Array Value → State → Outcome → State → Prop} {As : List Value} {hh : List (Nat × Nat × Nat × Nat)} {a : Array Value}
/-- what the law stands on besides: the throws' facts, the script -/
def KW (w : WT) (s : State) (b Ln : Nat) (xs : Nat → Int32) : Prop := TF w s ∧ NF s ∧ va_X b Ln xs s s.heap ∧ b < s.heap.size ∧ b < wSz w ∧ Ln ≤ 2048
theorem kLW (C : KC w p s m args meth c cc nL own ret) {b Ln : Nat} {xs : Nat → Int32} (K : KW w s b Ln xs) (hl : ls.size = nL) (hP : va_P (wD w) vwCl (pic w M L) H) (hS : va_S (wA w) s.heap H locs) (hM : Met l y (Cond.codeWith y bytes maxL rt hh :: BG) rm (PREL w As M L) Qc 1 6 (wA w))
    (h1 : Cond.methodLink own index y ∈ BG) (h2 : Cond.static y ∈ BG) (h4 : Cond.initialized y.cls ∈ BG) (h5 : Cond.codeWith y bytes maxL rt hh ∈ BG) (hd : y.cls ≠ "java/lang/invoke/MethodHandle" ∧ y.cls ≠ "java/lang/invoke/VarHandle" ∧ (parseMethodDescriptor y.desc).map (fun d => d.parameters.length) = some n)
    (hrm : rm.cells = 1 ∧ rm.slots = 6) (hR : rm.frames + 1 ≤ R.frames ∧ 8 + (maxL + 11) + rm.locals ≤ R.locals)
    (hn : As.length = n) (hst : st0 = As.reverse ++ rest) (hr : (rest.map fun v => v.category).sum ≤ 8) (hdg : decode cc pc = .ok (.invokestatic index, 3)) (hf : cells + 1 ≤ R.cells ∧ slots + 6 ≤ R.slots) :
    va_Run p l e R s m args below meth c H locs cells slots 1 6 (F0 m pc ls st0) rest (Qc As.toArray) (wA w) :=
  vx_runSW ⟨C.1, C.2.1, C.2.2.1, C.2.2.2.1, C.2.2.2.2.1⟩ hM (vx_cwSW n C.2.2.2.2.1 (by unfold va_wsS; exact gI (gW h1) (gI (gW h2) (gI (gW h4) (gBW h5)))) rfl hrm.1 hrm.2 hd hR) ⟨blindPREL w _ M L, fun U hU hW => ⟨rfl, ⟨⟨C.2.2.2.2.2.2.2.1.warm hW (by rw [hU]; exact hS), K.1.warm hW (by rw [hU]; exact hS)⟩, K.2.1.moved hW.alike⟩, by rw [hU]; exact hP⟩⟩ rfl hn hl hst (lv_room hr) hdg hf
theorem kcim {r : Int32} (hr : va_Run p l e R s m args below meth c H locs cells slots mc ms (F0 m pc ls st0) rest (QI w r M' L' a) (wA w)) (hS : va_S (wA w) s.heap H locs)
    (kk : ∀ (H1 : Heap) (locs1 : List Loc), va_P (wD w) vwCl (pic w M' L') H1 → va_S (wA w) s.heap H1 locs1 → W p l e R s m args below meth c H1 locs1 (cells + mc) (slots + ms) Q (F0 m (pc + 3) ls (.int r :: rest))) : W p l e R s m args below meth c H locs cells slots Q (F0 m pc ls st0) := by
  refine va_calli hr hS (fun _ _ h => h) (fun _ h => h) (fun r1 u t H1 locs1 ht _ hp hB _ _ hS1 => ?_)
  obtain ⟨rfl, rfl⟩ := hp
  unfold PW at hB
  rw [ht] at hB
  exact kk H1 locs1 hB hS1
theorem k_sld (C : KC w p s m args meth c cc nL own ret) {b Ln : Nat} {xs : Nat → Int32} (K : KW w s b Ln xs) (hS : va_S (wA w) s.heap H locs) (k : Nat) (hk : k < Ln) {i v : Int32} (hi : i = nI k) (hv : xs k = v) (hdg : decode cc pc = .ok (.iaload, 1))
    (kk : W p l e R s m args below meth c H locs cells slots Q (F0 m (pc + 1) ls (.int v :: rest))) : W p l e R s m args below meth c H locs cells slots Q (F0 m pc ls (.int i :: .ref b :: rest)) := by
  subst hi
  have hk31 : k < 2 ^ 31 := Nat.lt_of_lt_of_le hk (Nat.le_trans K.2.2.2.2.2 (by decide))
  refine va_sld C.1 C.2.1 K.2.2.1 K.2.2.2.1 (fun h => absurd (Nat.lt_of_lt_of_le K.2.2.2.2.1 h) (Nat.lt_irrefl _)) hS (vp_in_nI hk (Nat.lt_of_le_of_lt K.2.2.2.2.2 (by decide))) hdg ?_
  rw [nI_clamp hk31, hv]
  exact kk
theorem k_lald (C : KC w p s m args meth c cc nL own ret) (hP : va_P (wD w) vwCl (pic w M L) H) (hdg : decode cc pc = .ok (.laload, 1))
    (kk : W p l e R s m args below meth c H locs cells slots Q (F0 m (pc + 1) ls (.long (L 1) :: rest))) : W p l e R s m args below meth c H locs cells slots Q (F0 m pc ls (.int 0 :: .ref (wAd w 108) :: rest)) :=
  va_lald C.1 C.2.1 C.2.2.2.2.2.2.2.1.1 hP 108 2 (pic_at (by decide) (show cellX w L 108 (M 108) = .inl (wJ w, 1, .inr (.inl (vp_updL (fun _ => 0) 0 (L 1)))) from rfl)) rfl (show vp_in 0 1 by unfold vp_in; decide) hdg kk
end RowsW
theorem nI_k1 (j : Nat) : nI (4 * j) + 1 = nI (4 * j + 1) := nI_add _ 1
theorem nI_k2 (j : Nat) : nI (4 * j) + 2 = nI (4 * j + 2) := nI_add _ 2
theorem nI_k3 (j : Nat) : nI (4 * j) + 3 = nI (4 * j + 3) := nI_add _ 3
def f_lc0 (a1 a2 a3 : Int32) (M : Mem) (L : Lng) : Option ((Mem × Lng) ⊕ Int32) :=
  (g_set a1 a2 M L).bind fun r1 => (f_X9_set a1 a2 r1.2.1).bind fun r2 => (f_X9_thrown r2.2).bind fun r3 => if r3 = r1.1 then if r1.1 = 0 then if (lg_cmp (r1.2.2 1) (Int32.toInt64 r2.1)) = 0 then some (.inl (r2.2, r1.2.2)) else some (.inr 0) else some (.inl (r2.2, r1.2.2)) else some (.inr 0)
def f_lc1 (a1 a2 a3 : Int32) (M : Mem) (L : Lng) : Option ((Mem × Lng) ⊕ Int32) :=
  (g_tell a1 a2 a3 M L).bind fun r1 => (f_X9_tell a1 a2 a3 r1.2.1).bind fun r2 => (f_X9_thrown r2.2).bind fun r3 => if r3 = r1.1 then if r1.1 = 0 then if (lg_cmp (r1.2.2 1) (Int32.toInt64 r2.1)) = 0 then some (.inl (r2.2, r1.2.2)) else some (.inr 0) else some (.inl (r2.2, r1.2.2)) else some (.inr 0)
def f_lc2 (a1 a2 a3 : Int32) (M : Mem) (L : Lng) : Option ((Mem × Lng) ⊕ Int32) :=
  (g_correct a1 a2 a3 M L).bind fun r1 => (f_X9_correct a1 a2 a3 r1.2.1).bind fun r2 => (f_X9_thrown r2.2).bind fun r3 => if r3 = r1.1 then if r1.1 = 0 then if (lg_cmp (r1.2.2 1) (Int32.toInt64 r2.1)) = 0 then some (.inl (r2.2, r1.2.2)) else some (.inr 0) else some (.inl (r2.2, r1.2.2)) else some (.inr 0)
def f_lc3 (a1 a2 a3 : Int32) (M : Mem) (L : Lng) : Option ((Mem × Lng) ⊕ Int32) :=
  (g_forget a1 M L).bind fun r1 => (f_X9_forget a1 r1.2.1).bind fun r2 => (f_X9_thrown r2.2).bind fun r3 => if r3 = r1.1 then if r1.1 = 0 then if (lg_cmp (r1.2.2 1) (Int32.toInt64 r2.1)) = 0 then some (.inl (r2.2, r1.2.2)) else some (.inr 0) else some (.inl (r2.2, r1.2.2)) else some (.inr 0)
def f_lc4 (a1 a2 a3 : Int32) (M : Mem) (L : Lng) : Option ((Mem × Lng) ⊕ Int32) :=
  (g_complain a1 M L).bind fun r1 => (f_X9_complain a1 r1.2.1).bind fun r2 => (f_X9_thrown r2.2).bind fun r3 => if r3 = r1.1 then if r1.1 = 0 then if (lg_cmp (r1.2.2 1) (Int32.toInt64 r2.1)) = 0 then some (.inl (r2.2, r1.2.2)) else some (.inr 0) else some (.inl (r2.2, r1.2.2)) else some (.inr 0)
def f_lc5 (a1 a2 a3 : Int32) (M : Mem) (L : Lng) : Option ((Mem × Lng) ⊕ Int32) :=
  (g_withdraw a1 M L).bind fun r1 => (f_X9_withdraw a1 r1.2.1).bind fun r2 => (f_X9_thrown r2.2).bind fun r3 => if r3 = r1.1 then if r1.1 = 0 then if (lg_cmp (r1.2.2 1) (Int32.toInt64 r2.1)) = 0 then some (.inl (r2.2, r1.2.2)) else some (.inr 0) else some (.inl (r2.2, r1.2.2)) else some (.inr 0)
def f_lc6 (a1 a2 a3 : Int32) (M : Mem) (L : Lng) : Option ((Mem × Lng) ⊕ Int32) :=
  (g_append a1 M L).bind fun r1 => (f_X9_append a1 r1.2.1).bind fun r2 => (f_X9_thrown r2.2).bind fun r3 => if r3 = r1.1 then if r1.1 = 0 then if (lg_cmp (r1.2.2 1) (Int32.toInt64 r2.1)) = 0 then some (.inl (r2.2, r1.2.2)) else some (.inr 0) else some (.inl (r2.2, r1.2.2)) else some (.inr 0)
def f_lc7 (a1 a2 a3 : Int32) (M : Mem) (L : Lng) : Option ((Mem × Lng) ⊕ Int32) :=
  (f_X8_clearBuffer M).bind fun r1 => (f_X9_clearBuffer r1.2).bind fun r2 => if r1.1 = r2.1 then some (.inl (r2.2, L)) else some (.inr 0)
def f_lc8 (a1 a2 a3 : Int32) (M : Mem) (L : Lng) : Option ((Mem × Lng) ⊕ Int32) :=
  (f_X8_firstError M).bind fun r1 => (f_X9_firstError r1.2).bind fun r2 => if r1.1 = r2.1 then some (.inl (r2.2, L)) else some (.inr 0)
def f_lc9 (a1 a2 a3 : Int32) (M : Mem) (L : Lng) : Option ((Mem × Lng) ⊕ Int32) :=
  (g_load M L).bind fun r1 => (f_X9_load r1.2.1).bind fun r2 => (f_X9_thrown r2.2).bind fun r3 => if r3 = r1.1 then if r1.1 = 0 then if (lg_cmp (r1.2.2 1) (Int32.toInt64 r2.1)) = 0 then some (.inl (r2.2, r1.2.2)) else some (.inr 0) else some (.inl (r2.2, r1.2.2)) else some (.inr 0)
def f_lc10 (a1 a2 a3 : Int32) (M : Mem) (L : Lng) : Option ((Mem × Lng) ⊕ Int32) :=
  (g_undo M L).bind fun r1 => (f_X9_undo r1.2.1).bind fun r2 => (f_X9_thrown r2.2).bind fun r3 => if r3 = r1.1 then if r1.1 = 0 then if (lg_cmp (r1.2.2 1) (Int32.toInt64 r2.1)) = 0 then some (.inl (r2.2, r1.2.2)) else some (.inr 0) else some (.inl (r2.2, r1.2.2)) else some (.inr 0)
def f_lc11 (a1 a2 a3 : Int32) (M : Mem) (L : Lng) : Option ((Mem × Lng) ⊕ Int32) :=
  (g_minute a1 a2 M L).bind fun r1 => (f_X9_minute a1 a2 r1.2.1).bind fun r2 => (f_X9_thrown r2.2).bind fun r3 => if r3 = r1.1 then if r1.1 = 0 then if (lg_cmp (r1.2.2 1) (Int32.toInt64 r2.1)) = 0 then some (.inl (r2.2, r1.2.2)) else some (.inr 0) else some (.inl (r2.2, r1.2.2)) else some (.inr 0)
def f_lc12 (a1 a2 a3 : Int32) (M : Mem) (L : Lng) : Option ((Mem × Lng) ⊕ Int32) :=
  (g_exceedance a1 a2 M L).bind fun r1 => (f_X9_exceedance a1 a2 r1.2.1).bind fun r2 => (f_X9_thrown r2.2).bind fun r3 => if r3 = r1.1 then if r1.1 = 0 then if (lg_cmp (r1.2.2 1) (Int32.toInt64 r2.1)) = 0 then some (.inl (r2.2, r1.2.2)) else some (.inr 0) else some (.inl (r2.2, r1.2.2)) else some (.inr 0)
def f_lc13 (a1 a2 a3 : Int32) (M : Mem) (L : Lng) : Option ((Mem × Lng) ⊕ Int32) :=
  (g_complaint a1 a2 M L).bind fun r1 => (f_X9_complaint a1 a2 r1.2.1).bind fun r2 => (f_X9_thrown r2.2).bind fun r3 => if r3 = r1.1 then if r1.1 = 0 then if (lg_cmp (r1.2.2 1) (Int32.toInt64 r2.1)) = 0 then some (.inl (r2.2, r1.2.2)) else some (.inr 0) else some (.inl (r2.2, r1.2.2)) else some (.inr 0)
def f_lc14 (a1 a2 a3 : Int32) (M : Mem) (L : Lng) : Option ((Mem × Lng) ⊕ Int32) :=
  (g_levelCount a1 M L).bind fun r1 => (f_X9_levelCount a1 r1.2.1).bind fun r2 => (f_X9_thrown r2.2).bind fun r3 => if r3 = r1.1 then if r1.1 = 0 then if (lg_cmp (r1.2.2 1) (Int32.toInt64 r2.1)) = 0 then some (.inl (r2.2, r1.2.2)) else some (.inr 0) else some (.inl (r2.2, r1.2.2)) else some (.inr 0)
def f_lc15 (a1 a2 a3 : Int32) (M : Mem) (L : Lng) : Option ((Mem × Lng) ⊕ Int32) :=
  (g_percentLevel a1 M L).bind fun r1 => (f_X9_percentLevel a1 r1.2.1).bind fun r2 => (f_X9_thrown r2.2).bind fun r3 => if r3 = r1.1 then if r1.1 = 0 then if (lg_cmp (r1.2.2 1) (Int32.toInt64 r2.1)) = 0 then some (.inl (r2.2, r1.2.2)) else some (.inr 0) else some (.inl (r2.2, r1.2.2)) else some (.inr 0)
def f_lc16 (a1 a2 a3 : Int32) (M : Mem) (L : Lng) : Option ((Mem × Lng) ⊕ Int32) :=
  (g_count a1 M L).bind fun r1 => (f_X9_count a1 r1.2.1).bind fun r2 => (f_X9_thrown r2.2).bind fun r3 => if r3 = r1.1 then if r1.1 = 0 then if (lg_cmp (r1.2.2 1) (Int32.toInt64 r2.1)) = 0 then some (.inl (r2.2, r1.2.2)) else some (.inr 0) else some (.inl (r2.2, r1.2.2)) else some (.inr 0)
def f_lc17 (a1 a2 a3 : Int32) (M : Mem) (L : Lng) : Option ((Mem × Lng) ⊕ Int32) :=
  (g_setting a1 M L).bind fun r1 => (f_X9_setting a1 r1.2.1).bind fun r2 => (f_X9_thrown r2.2).bind fun r3 => if r3 = r1.1 then if r1.1 = 0 then if (lg_cmp (r1.2.2 1) (Int32.toInt64 r2.1)) = 0 then some (.inl (r2.2, r1.2.2)) else some (.inr 0) else some (.inl (r2.2, r1.2.2)) else some (.inr 0)
def f_lc18 (a1 a2 a3 : Int32) (M : Mem) (L : Lng) : Option ((Mem × Lng) ⊕ Int32) :=
  (g_ifSet a1 a2 a3 M L).bind fun r1 => (f_X9_ifSet a1 a2 a3 r1.2.1).bind fun r2 => (f_X9_thrown r2.2).bind fun r3 => if r3 = r1.1 then if r1.1 = 0 then if (lg_cmp (r1.2.2 1) (Int32.toInt64 r2.1)) = 0 then some (.inl (r2.2, r1.2.2)) else some (.inr 0) else some (.inl (r2.2, r1.2.2)) else some (.inr 0)
def f_lc19 (a1 a2 a3 : Int32) (M : Mem) (L : Lng) : Option ((Mem × Lng) ⊕ Int32) :=
  (g_leastLimit a1 M L).bind fun r1 => (f_X9_leastLimit a1 r1.2.1).bind fun r2 => (f_X9_thrown r2.2).bind fun r3 => if r3 = r1.1 then if r1.1 = 0 then if (lg_cmp (r1.2.2 1) (Int32.toInt64 r2.1)) = 0 then some (.inl (r2.2, r1.2.2)) else some (.inr 0) else some (.inl (r2.2, r1.2.2)) else some (.inr 0)
def f_lc20 (a1 a2 a3 : Int32) (M : Mem) (L : Lng) : Option ((Mem × Lng) ⊕ Int32) :=
  (g_aboveIn a1 M L).bind fun r1 => (f_X9_aboveIn a1 r1.2.1).bind fun r2 => (f_X9_thrown r2.2).bind fun r3 => if r3 = r1.1 then if r1.1 = 0 then if (lg_cmp (r1.2.2 1) (Int32.toInt64 r2.1)) = 0 then some (.inl (r2.2, r1.2.2)) else some (.inr 0) else some (.inl (r2.2, r1.2.2)) else some (.inr 0)
def f_lc21 (a1 a2 a3 : Int32) (M : Mem) (L : Lng) : Option ((Mem × Lng) ⊕ Int32) :=
  (f_X8_share M).bind fun r1 => (f_X9_share M).bind fun r2 => if (Op.cmpValue (FP.dcmp r1 r2.1) .l) = 0 then some (.inl (r2.2, L)) else if (Op.cmpValue (FP.dcmp r1 r1) .l) = 0 then some (.inr 0) else if (Op.cmpValue (FP.dcmp r2.1 r2.1) .l) = 0 then some (.inr 0) else some (.inl (r2.2, L))
def f_lc22 (a1 a2 a3 : Int32) (M : Mem) (L : Lng) : Option ((Mem × Lng) ⊕ Int32) :=
  (f_X8_digest M).bind fun r1 => (f_X9_digest M L).bind fun r2 => if (lg_cmp r1 r2.1) = 0 then some (.inl (r2.2.1, r2.2.2)) else some (.inr 0)
set_option maxHeartbeats 4000000 in
set_option maxRecDepth 100000 in
theorem w_lc0 {w : WT} {p : Program} {l : Launch} {e : Env} {s : State} {m : MethodId} {args : Array Value} {below : List Frame} {meth : Method} {c : Code} {cells slots : Nat} {Q : State → Prop} (C : KC w p s m args meth c cL_law 9 RL (some .boolean)) (hfl : l.stackTraces = false) {b Ln j : Nat} {xs : Nat → Int32} (K : KW w s b Ln xs) (hj : 4 * j + 4 ≤ Ln) {a1 a2 a3 : Int32} (e1 : xs (4 * j + 1) = a1) (e2 : xs (4 * j + 2) = a2) (e3 : xs (4 * j + 3) = a3) (hc1 : cells + 1 ≤ room_1.cells) (hs1 : slots + 6 ≤ room_1.slots) {M : Mem} {L : Lng} {out : Mem × Lng} (hf : f_lc0 a1 a2 a3 M L = some (.inl out))
    (hgo : ∀ (H : Heap) (locs : List Loc) (ls : Array Slot), va_P (wD w) vwCl (pic w out.1 out.2) H → va_S (wA w) s.heap H locs → lv_has ls 9 [(0, .ref b), (1, .ref (wAd w 0)), (2, .ref (wAd w 90)), (3, .ref (wAd w 108)), (4, .int (nI (4 * j)))] → W p l e room_1 s m args below meth c H locs (cells + 1) (slots + 6) Q (F0 m 1385 ls []))
    (H : Heap) (locs : List Loc) (ls : Array Slot) (hP : va_P (wD w) vwCl (pic w M L) H) (hS : va_S (wA w) s.heap H locs) (hl : lv_has ls 9 [(0, .ref b), (1, .ref (wAd w 0)), (2, .ref (wAd w 90)), (3, .ref (wAd w 108)), (4, .int (nI (4 * j)))]) : W p l e room_1 s m args below meth c H locs cells slots Q (F0 m 144 ls []) := by
  unfold f_lc0 at hf
  refine lv_aload_n C.1 C.2.1 dL_law_144 rfl (lv_at hl 1 rfl) ?_
  refine lv_aload_n C.1 C.2.1 dL_law_145 rfl (lv_at hl 0 rfl) ?_
  refine lv_iload C.1 C.2.1 dL_law_146 (lv_at hl 4 rfl) ?_
  refine lv_iconst (v := 1) C.1 C.2.1 dL_law_148 (by decide) ?_
  refine lv_iadd C.1 C.2.1 dL_law_149 ?_
  refine k_sld C K hS (4 * j + 1) (by omega) (nI_k1 j) e1 dL_law_150 ?_
  refine lv_aload_n C.1 C.2.1 dL_law_151 rfl (lv_at hl 0 rfl) ?_
  refine lv_iload C.1 C.2.1 dL_law_152 (lv_at hl 4 rfl) ?_
  refine lv_iconst (v := 2) C.1 C.2.1 dL_law_154 (by decide) ?_
  refine lv_iadd C.1 C.2.1 dL_law_155 ?_
  refine k_sld C K hS (4 * j + 2) (by omega) (nI_k2 j) e2 dL_law_156 ?_
  refine lv_aload_n C.1 C.2.1 dL_law_157 rfl (lv_at hl 3 rfl) ?_
  obtain ⟨r1, hr1, hf⟩ := ob hf
  refine kcim (kLW (As := [.ref (wAd w 0), .int a1, .int a2, .ref (wAd w 108)]) (rest := []) C K hl.1 hP hS (c_L_set w l C.2.2.2.2.2.2.2.2 hfl hr1) q460 q461 q0 q462 hd_L_set ⟨rfl, rfl⟩ ⟨Nat.le_of_ble_eq_true rfl, Nat.le_of_ble_eq_true rfl⟩ rfl rfl (Nat.le_of_ble_eq_true rfl) dL_law_158 ⟨hc1, hs1⟩) hS (fun H locs hP hS => ?_)
  refine lv_istore (lv' := [(5, .int r1.1), (0, .ref b), (1, .ref (wAd w 0)), (2, .ref (wAd w 90)), (3, .ref (wAd w 108)), (4, .int (nI (4 * j)))]) C.1 C.2.1 dL_law_161 hl (by decide) rfl (fun ls hl => ?_)
  refine lv_aload_n C.1 C.2.1 dL_law_163 rfl (lv_at hl 3 rfl) ?_
  refine lv_aload_n C.1 C.2.1 dL_law_164 rfl (lv_at hl 1 rfl) ?_
  refine lv_iload C.1 C.2.1 dL_law_165 (lv_at hl 5 rfl) ?_
  refine lv_iconst (v := 1) C.1 C.2.1 dL_law_167 (by decide) ?_
  refine lv_iadd C.1 C.2.1 dL_law_168 ?_
  refine k_sld C K hS (4 * j + 1) (by omega) (nI_k1 j) e1 dL_law_169 ?_
  refine lv_aload_n C.1 C.2.1 dL_law_170 rfl (lv_at hl 1 rfl) ?_
  refine lv_iload C.1 C.2.1 dL_law_171 (lv_at hl 5 rfl) ?_
  refine lv_iconst (v := 2) C.1 C.2.1 dL_law_173 (by decide) ?_
  refine lv_iadd C.1 C.2.1 dL_law_174 ?_
  refine k_sld C K hS (4 * j + 2) (by omega) (nI_k2 j) e2 dL_law_175 ?_
  obtain ⟨r2, hr2, hf⟩ := ob hf
  refine kci (kV (As := [.int a1, .int a2]) (rest := []) C hl.1 hP hS (c_X9_set w l C.2.2.2.2.2.2.2.2 (L := r1.2.2) hr2) (gV q956 q957 q958 q10 q959) hd_X9_set (lt_Model h0_Model) (ob_Model h0_Model w r1.2.2 _) rfl ⟨rfl, rfl⟩ ⟨Nat.le_of_ble_eq_true rfl, Nat.le_of_ble_eq_true rfl⟩ rfl rfl (Nat.le_of_ble_eq_true rfl) dL_law_176 ⟨hc1, hs1⟩) hS (fun H locs hP hS => ?_)
  refine lv_istore (lv' := [(6, .int r2.1), (5, .int r1.1), (0, .ref b), (1, .ref (wAd w 0)), (2, .ref (wAd w 90)), (3, .ref (wAd w 108)), (4, .int (nI (4 * j)))]) C.1 C.2.1 dL_law_179 hl (by decide) rfl (fun ls hl => ?_)
  refine lv_aload_n C.1 C.2.1 dL_law_181 rfl (lv_at hl 4 rfl) ?_
  obtain ⟨r3, hr3, hf⟩ := ob hf
  refine kci (kV (As := []) (rest := []) C hl.1 hP hS (c_X9_thrown w l C.2.2.2.2.2.2.2.2 (L := r1.2.2) hr3) (gV q948 q949 q950 q10 q951) hd_X9_thrown (lt_Model h0_Model) (ob_Model h0_Model w r1.2.2 _) rfl ⟨rfl, rfl⟩ ⟨Nat.le_of_ble_eq_true rfl, Nat.le_of_ble_eq_true rfl⟩ rfl rfl (Nat.le_of_ble_eq_true rfl) dL_law_182 ⟨hc1, hs1⟩) hS (fun H locs hP hS => ?_)
  refine lv_iload C.1 C.2.1 dL_law_185 (lv_at hl 1 rfl) ?_
  refine lv_icmp_eq (tgt := 192) C.1 C.2.1 dL_law_187 (by decide) (fun c4 => ?_) (fun c4 => ?_)
  · have hf := (if_pos c4).symm.trans hf
    refine lv_iload C.1 C.2.1 dL_law_192 (lv_at hl 1 rfl) ?_
    refine lv_if_ne (tgt := 209) C.1 C.2.1 dL_law_194 (by decide) (fun c5 => ?_) (fun c5 => ?_)
    · have hf := (if_neg c5).symm.trans hf
      refine lv_goto (tgt := 1385) C.1 C.2.1 dL_law_209 (by decide) ?_
      cases hf
      exact hgo _ _ _ hP hS (lv_sub hl [2, 3, 4, 5, 6] rfl)
    · have hf := (if_pos c5).symm.trans hf
      refine lv_aload_n C.1 C.2.1 dL_law_197 rfl (lv_at hl 5 rfl) ?_
      refine lv_iconst (v := 0) C.1 C.2.1 dL_law_198 (by decide) ?_
      refine k_lald C hP dL_law_199 ?_
      refine lv_iload C.1 C.2.1 dL_law_200 (lv_at hl 0 rfl) ?_
      refine lv_i2l (v := (Int32.toInt64 r2.1)) C.1 C.2.1 dL_law_202 rfl ?_
      refine W.lcmp C.1 C.2.1 dL_law_203 ?_
      refine lv_if_eq (tgt := 209) C.1 C.2.1 dL_law_204 (by decide) (fun c6 => ?_) (fun c6 => ?_)
      · have hf := (if_pos c6).symm.trans hf
        refine lv_goto (tgt := 1385) C.1 C.2.1 dL_law_209 (by decide) ?_
        cases hf
        exact hgo _ _ _ hP hS (lv_sub hl [2, 3, 4, 5, 6] rfl)
      · have hf := (if_neg c6).symm.trans hf
        refine lv_iconst (v := 0) C.1 C.2.1 dL_law_207 (by decide) ?_
        cases hf
  · have hf := (if_neg c4).symm.trans hf
    refine lv_iconst (v := 0) C.1 C.2.1 dL_law_190 (by decide) ?_
    cases hf
set_option maxHeartbeats 4000000 in
set_option maxRecDepth 100000 in
theorem w_lc1 {w : WT} {p : Program} {l : Launch} {e : Env} {s : State} {m : MethodId} {args : Array Value} {below : List Frame} {meth : Method} {c : Code} {cells slots : Nat} {Q : State → Prop} (C : KC w p s m args meth c cL_law 9 RL (some .boolean)) (hfl : l.stackTraces = false) {b Ln j : Nat} {xs : Nat → Int32} (K : KW w s b Ln xs) (hj : 4 * j + 4 ≤ Ln) {a1 a2 a3 : Int32} (e1 : xs (4 * j + 1) = a1) (e2 : xs (4 * j + 2) = a2) (e3 : xs (4 * j + 3) = a3) (hc1 : cells + 1 ≤ room_1.cells) (hs1 : slots + 6 ≤ room_1.slots) {M : Mem} {L : Lng} {out : Mem × Lng} (hf : f_lc1 a1 a2 a3 M L = some (.inl out))
    (hgo : ∀ (H : Heap) (locs : List Loc) (ls : Array Slot), va_P (wD w) vwCl (pic w out.1 out.2) H → va_S (wA w) s.heap H locs → lv_has ls 9 [(0, .ref b), (1, .ref (wAd w 0)), (2, .ref (wAd w 90)), (3, .ref (wAd w 108)), (4, .int (nI (4 * j)))] → W p l e room_1 s m args below meth c H locs (cells + 1) (slots + 6) Q (F0 m 1385 ls []))
    (H : Heap) (locs : List Loc) (ls : Array Slot) (hP : va_P (wD w) vwCl (pic w M L) H) (hS : va_S (wA w) s.heap H locs) (hl : lv_has ls 9 [(0, .ref b), (1, .ref (wAd w 0)), (2, .ref (wAd w 90)), (3, .ref (wAd w 108)), (4, .int (nI (4 * j)))]) : W p l e room_1 s m args below meth c H locs cells slots Q (F0 m 212 ls []) := by
  unfold f_lc1 at hf
  refine lv_aload_n C.1 C.2.1 dL_law_212 rfl (lv_at hl 1 rfl) ?_
  refine lv_aload_n C.1 C.2.1 dL_law_213 rfl (lv_at hl 0 rfl) ?_
  refine lv_iload C.1 C.2.1 dL_law_214 (lv_at hl 4 rfl) ?_
  refine lv_iconst (v := 1) C.1 C.2.1 dL_law_216 (by decide) ?_
  refine lv_iadd C.1 C.2.1 dL_law_217 ?_
  refine k_sld C K hS (4 * j + 1) (by omega) (nI_k1 j) e1 dL_law_218 ?_
  refine lv_aload_n C.1 C.2.1 dL_law_219 rfl (lv_at hl 0 rfl) ?_
  refine lv_iload C.1 C.2.1 dL_law_220 (lv_at hl 4 rfl) ?_
  refine lv_iconst (v := 2) C.1 C.2.1 dL_law_222 (by decide) ?_
  refine lv_iadd C.1 C.2.1 dL_law_223 ?_
  refine k_sld C K hS (4 * j + 2) (by omega) (nI_k2 j) e2 dL_law_224 ?_
  refine lv_aload_n C.1 C.2.1 dL_law_225 rfl (lv_at hl 0 rfl) ?_
  refine lv_iload C.1 C.2.1 dL_law_226 (lv_at hl 4 rfl) ?_
  refine lv_iconst (v := 3) C.1 C.2.1 dL_law_228 (by decide) ?_
  refine lv_iadd C.1 C.2.1 dL_law_229 ?_
  refine k_sld C K hS (4 * j + 3) (by omega) (nI_k3 j) e3 dL_law_230 ?_
  refine lv_aload_n C.1 C.2.1 dL_law_231 rfl (lv_at hl 3 rfl) ?_
  obtain ⟨r1, hr1, hf⟩ := ob hf
  refine kcim (kLW (As := [.ref (wAd w 0), .int a1, .int a2, .int a3, .ref (wAd w 108)]) (rest := []) C K hl.1 hP hS (c_L_tell w l C.2.2.2.2.2.2.2.2 hfl hr1) q649 q650 q0 q651 hd_L_tell ⟨rfl, rfl⟩ ⟨Nat.le_of_ble_eq_true rfl, Nat.le_of_ble_eq_true rfl⟩ rfl rfl (Nat.le_of_ble_eq_true rfl) dL_law_232 ⟨hc1, hs1⟩) hS (fun H locs hP hS => ?_)
  refine lv_istore (lv' := [(5, .int r1.1), (0, .ref b), (1, .ref (wAd w 0)), (2, .ref (wAd w 90)), (3, .ref (wAd w 108)), (4, .int (nI (4 * j)))]) C.1 C.2.1 dL_law_235 hl (by decide) rfl (fun ls hl => ?_)
  refine lv_aload_n C.1 C.2.1 dL_law_237 rfl (lv_at hl 3 rfl) ?_
  refine lv_aload_n C.1 C.2.1 dL_law_238 rfl (lv_at hl 1 rfl) ?_
  refine lv_iload C.1 C.2.1 dL_law_239 (lv_at hl 5 rfl) ?_
  refine lv_iconst (v := 1) C.1 C.2.1 dL_law_241 (by decide) ?_
  refine lv_iadd C.1 C.2.1 dL_law_242 ?_
  refine k_sld C K hS (4 * j + 1) (by omega) (nI_k1 j) e1 dL_law_243 ?_
  refine lv_aload_n C.1 C.2.1 dL_law_244 rfl (lv_at hl 1 rfl) ?_
  refine lv_iload C.1 C.2.1 dL_law_245 (lv_at hl 5 rfl) ?_
  refine lv_iconst (v := 2) C.1 C.2.1 dL_law_247 (by decide) ?_
  refine lv_iadd C.1 C.2.1 dL_law_248 ?_
  refine k_sld C K hS (4 * j + 2) (by omega) (nI_k2 j) e2 dL_law_249 ?_
  refine lv_aload_n C.1 C.2.1 dL_law_250 rfl (lv_at hl 1 rfl) ?_
  refine lv_iload C.1 C.2.1 dL_law_251 (lv_at hl 5 rfl) ?_
  refine lv_iconst (v := 3) C.1 C.2.1 dL_law_253 (by decide) ?_
  refine lv_iadd C.1 C.2.1 dL_law_254 ?_
  refine k_sld C K hS (4 * j + 3) (by omega) (nI_k3 j) e3 dL_law_255 ?_
  obtain ⟨r2, hr2, hf⟩ := ob hf
  refine kci (kV (As := [.int a1, .int a2, .int a3]) (rest := []) C hl.1 hP hS (c_X9_tell w l C.2.2.2.2.2.2.2.2 (L := r1.2.2) hr2) (gV q977 q978 q979 q10 q980) hd_X9_tell (lt_Model h0_Model) (ob_Model h0_Model w r1.2.2 _) rfl ⟨rfl, rfl⟩ ⟨Nat.le_of_ble_eq_true rfl, Nat.le_of_ble_eq_true rfl⟩ rfl rfl (Nat.le_of_ble_eq_true rfl) dL_law_256 ⟨hc1, hs1⟩) hS (fun H locs hP hS => ?_)
  refine lv_istore (lv' := [(6, .int r2.1), (5, .int r1.1), (0, .ref b), (1, .ref (wAd w 0)), (2, .ref (wAd w 90)), (3, .ref (wAd w 108)), (4, .int (nI (4 * j)))]) C.1 C.2.1 dL_law_259 hl (by decide) rfl (fun ls hl => ?_)
  refine lv_aload_n C.1 C.2.1 dL_law_261 rfl (lv_at hl 4 rfl) ?_
  obtain ⟨r3, hr3, hf⟩ := ob hf
  refine kci (kV (As := []) (rest := []) C hl.1 hP hS (c_X9_thrown w l C.2.2.2.2.2.2.2.2 (L := r1.2.2) hr3) (gV q948 q949 q950 q10 q951) hd_X9_thrown (lt_Model h0_Model) (ob_Model h0_Model w r1.2.2 _) rfl ⟨rfl, rfl⟩ ⟨Nat.le_of_ble_eq_true rfl, Nat.le_of_ble_eq_true rfl⟩ rfl rfl (Nat.le_of_ble_eq_true rfl) dL_law_262 ⟨hc1, hs1⟩) hS (fun H locs hP hS => ?_)
  refine lv_iload C.1 C.2.1 dL_law_265 (lv_at hl 1 rfl) ?_
  refine lv_icmp_eq (tgt := 272) C.1 C.2.1 dL_law_267 (by decide) (fun c4 => ?_) (fun c4 => ?_)
  · have hf := (if_pos c4).symm.trans hf
    refine lv_iload C.1 C.2.1 dL_law_272 (lv_at hl 1 rfl) ?_
    refine lv_if_ne (tgt := 289) C.1 C.2.1 dL_law_274 (by decide) (fun c5 => ?_) (fun c5 => ?_)
    · have hf := (if_neg c5).symm.trans hf
      refine lv_goto (tgt := 1385) C.1 C.2.1 dL_law_289 (by decide) ?_
      cases hf
      exact hgo _ _ _ hP hS (lv_sub hl [2, 3, 4, 5, 6] rfl)
    · have hf := (if_pos c5).symm.trans hf
      refine lv_aload_n C.1 C.2.1 dL_law_277 rfl (lv_at hl 5 rfl) ?_
      refine lv_iconst (v := 0) C.1 C.2.1 dL_law_278 (by decide) ?_
      refine k_lald C hP dL_law_279 ?_
      refine lv_iload C.1 C.2.1 dL_law_280 (lv_at hl 0 rfl) ?_
      refine lv_i2l (v := (Int32.toInt64 r2.1)) C.1 C.2.1 dL_law_282 rfl ?_
      refine W.lcmp C.1 C.2.1 dL_law_283 ?_
      refine lv_if_eq (tgt := 289) C.1 C.2.1 dL_law_284 (by decide) (fun c6 => ?_) (fun c6 => ?_)
      · have hf := (if_pos c6).symm.trans hf
        refine lv_goto (tgt := 1385) C.1 C.2.1 dL_law_289 (by decide) ?_
        cases hf
        exact hgo _ _ _ hP hS (lv_sub hl [2, 3, 4, 5, 6] rfl)
      · have hf := (if_neg c6).symm.trans hf
        refine lv_iconst (v := 0) C.1 C.2.1 dL_law_287 (by decide) ?_
        cases hf
  · have hf := (if_neg c4).symm.trans hf
    refine lv_iconst (v := 0) C.1 C.2.1 dL_law_270 (by decide) ?_
    cases hf
set_option maxHeartbeats 4000000 in
set_option maxRecDepth 100000 in
theorem w_lc2 {w : WT} {p : Program} {l : Launch} {e : Env} {s : State} {m : MethodId} {args : Array Value} {below : List Frame} {meth : Method} {c : Code} {cells slots : Nat} {Q : State → Prop} (C : KC w p s m args meth c cL_law 9 RL (some .boolean)) (hfl : l.stackTraces = false) {b Ln j : Nat} {xs : Nat → Int32} (K : KW w s b Ln xs) (hj : 4 * j + 4 ≤ Ln) {a1 a2 a3 : Int32} (e1 : xs (4 * j + 1) = a1) (e2 : xs (4 * j + 2) = a2) (e3 : xs (4 * j + 3) = a3) (hc1 : cells + 1 ≤ room_1.cells) (hs1 : slots + 6 ≤ room_1.slots) {M : Mem} {L : Lng} {out : Mem × Lng} (hf : f_lc2 a1 a2 a3 M L = some (.inl out))
    (hgo : ∀ (H : Heap) (locs : List Loc) (ls : Array Slot), va_P (wD w) vwCl (pic w out.1 out.2) H → va_S (wA w) s.heap H locs → lv_has ls 9 [(0, .ref b), (1, .ref (wAd w 0)), (2, .ref (wAd w 90)), (3, .ref (wAd w 108)), (4, .int (nI (4 * j)))] → W p l e room_1 s m args below meth c H locs (cells + 1) (slots + 6) Q (F0 m 1385 ls []))
    (H : Heap) (locs : List Loc) (ls : Array Slot) (hP : va_P (wD w) vwCl (pic w M L) H) (hS : va_S (wA w) s.heap H locs) (hl : lv_has ls 9 [(0, .ref b), (1, .ref (wAd w 0)), (2, .ref (wAd w 90)), (3, .ref (wAd w 108)), (4, .int (nI (4 * j)))]) : W p l e room_1 s m args below meth c H locs cells slots Q (F0 m 292 ls []) := by
  unfold f_lc2 at hf
  refine lv_aload_n C.1 C.2.1 dL_law_292 rfl (lv_at hl 1 rfl) ?_
  refine lv_aload_n C.1 C.2.1 dL_law_293 rfl (lv_at hl 0 rfl) ?_
  refine lv_iload C.1 C.2.1 dL_law_294 (lv_at hl 4 rfl) ?_
  refine lv_iconst (v := 1) C.1 C.2.1 dL_law_296 (by decide) ?_
  refine lv_iadd C.1 C.2.1 dL_law_297 ?_
  refine k_sld C K hS (4 * j + 1) (by omega) (nI_k1 j) e1 dL_law_298 ?_
  refine lv_aload_n C.1 C.2.1 dL_law_299 rfl (lv_at hl 0 rfl) ?_
  refine lv_iload C.1 C.2.1 dL_law_300 (lv_at hl 4 rfl) ?_
  refine lv_iconst (v := 2) C.1 C.2.1 dL_law_302 (by decide) ?_
  refine lv_iadd C.1 C.2.1 dL_law_303 ?_
  refine k_sld C K hS (4 * j + 2) (by omega) (nI_k2 j) e2 dL_law_304 ?_
  refine lv_aload_n C.1 C.2.1 dL_law_305 rfl (lv_at hl 0 rfl) ?_
  refine lv_iload C.1 C.2.1 dL_law_306 (lv_at hl 4 rfl) ?_
  refine lv_iconst (v := 3) C.1 C.2.1 dL_law_308 (by decide) ?_
  refine lv_iadd C.1 C.2.1 dL_law_309 ?_
  refine k_sld C K hS (4 * j + 3) (by omega) (nI_k3 j) e3 dL_law_310 ?_
  refine lv_aload_n C.1 C.2.1 dL_law_311 rfl (lv_at hl 3 rfl) ?_
  obtain ⟨r1, hr1, hf⟩ := ob hf
  refine kcim (kLW (As := [.ref (wAd w 0), .int a1, .int a2, .int a3, .ref (wAd w 108)]) (rest := []) C K hl.1 hP hS (c_L_correct w l C.2.2.2.2.2.2.2.2 hfl hr1) q684 q685 q0 q686 hd_L_correct ⟨rfl, rfl⟩ ⟨Nat.le_of_ble_eq_true rfl, Nat.le_of_ble_eq_true rfl⟩ rfl rfl (Nat.le_of_ble_eq_true rfl) dL_law_312 ⟨hc1, hs1⟩) hS (fun H locs hP hS => ?_)
  refine lv_istore (lv' := [(5, .int r1.1), (0, .ref b), (1, .ref (wAd w 0)), (2, .ref (wAd w 90)), (3, .ref (wAd w 108)), (4, .int (nI (4 * j)))]) C.1 C.2.1 dL_law_315 hl (by decide) rfl (fun ls hl => ?_)
  refine lv_aload_n C.1 C.2.1 dL_law_317 rfl (lv_at hl 3 rfl) ?_
  refine lv_aload_n C.1 C.2.1 dL_law_318 rfl (lv_at hl 1 rfl) ?_
  refine lv_iload C.1 C.2.1 dL_law_319 (lv_at hl 5 rfl) ?_
  refine lv_iconst (v := 1) C.1 C.2.1 dL_law_321 (by decide) ?_
  refine lv_iadd C.1 C.2.1 dL_law_322 ?_
  refine k_sld C K hS (4 * j + 1) (by omega) (nI_k1 j) e1 dL_law_323 ?_
  refine lv_aload_n C.1 C.2.1 dL_law_324 rfl (lv_at hl 1 rfl) ?_
  refine lv_iload C.1 C.2.1 dL_law_325 (lv_at hl 5 rfl) ?_
  refine lv_iconst (v := 2) C.1 C.2.1 dL_law_327 (by decide) ?_
  refine lv_iadd C.1 C.2.1 dL_law_328 ?_
  refine k_sld C K hS (4 * j + 2) (by omega) (nI_k2 j) e2 dL_law_329 ?_
  refine lv_aload_n C.1 C.2.1 dL_law_330 rfl (lv_at hl 1 rfl) ?_
  refine lv_iload C.1 C.2.1 dL_law_331 (lv_at hl 5 rfl) ?_
  refine lv_iconst (v := 3) C.1 C.2.1 dL_law_333 (by decide) ?_
  refine lv_iadd C.1 C.2.1 dL_law_334 ?_
  refine k_sld C K hS (4 * j + 3) (by omega) (nI_k3 j) e3 dL_law_335 ?_
  obtain ⟨r2, hr2, hf⟩ := ob hf
  refine kci (kV (As := [.int a1, .int a2, .int a3]) (rest := []) C hl.1 hP hS (c_X9_correct w l C.2.2.2.2.2.2.2.2 (L := r1.2.2) hr2) (gV q988 q989 q990 q10 q991) hd_X9_correct (lt_Model h0_Model) (ob_Model h0_Model w r1.2.2 _) rfl ⟨rfl, rfl⟩ ⟨Nat.le_of_ble_eq_true rfl, Nat.le_of_ble_eq_true rfl⟩ rfl rfl (Nat.le_of_ble_eq_true rfl) dL_law_336 ⟨hc1, hs1⟩) hS (fun H locs hP hS => ?_)
  refine lv_istore (lv' := [(6, .int r2.1), (5, .int r1.1), (0, .ref b), (1, .ref (wAd w 0)), (2, .ref (wAd w 90)), (3, .ref (wAd w 108)), (4, .int (nI (4 * j)))]) C.1 C.2.1 dL_law_339 hl (by decide) rfl (fun ls hl => ?_)
  refine lv_aload_n C.1 C.2.1 dL_law_341 rfl (lv_at hl 4 rfl) ?_
  obtain ⟨r3, hr3, hf⟩ := ob hf
  refine kci (kV (As := []) (rest := []) C hl.1 hP hS (c_X9_thrown w l C.2.2.2.2.2.2.2.2 (L := r1.2.2) hr3) (gV q948 q949 q950 q10 q951) hd_X9_thrown (lt_Model h0_Model) (ob_Model h0_Model w r1.2.2 _) rfl ⟨rfl, rfl⟩ ⟨Nat.le_of_ble_eq_true rfl, Nat.le_of_ble_eq_true rfl⟩ rfl rfl (Nat.le_of_ble_eq_true rfl) dL_law_342 ⟨hc1, hs1⟩) hS (fun H locs hP hS => ?_)
  refine lv_iload C.1 C.2.1 dL_law_345 (lv_at hl 1 rfl) ?_
  refine lv_icmp_eq (tgt := 352) C.1 C.2.1 dL_law_347 (by decide) (fun c4 => ?_) (fun c4 => ?_)
  · have hf := (if_pos c4).symm.trans hf
    refine lv_iload C.1 C.2.1 dL_law_352 (lv_at hl 1 rfl) ?_
    refine lv_if_ne (tgt := 369) C.1 C.2.1 dL_law_354 (by decide) (fun c5 => ?_) (fun c5 => ?_)
    · have hf := (if_neg c5).symm.trans hf
      refine lv_goto (tgt := 1385) C.1 C.2.1 dL_law_369 (by decide) ?_
      cases hf
      exact hgo _ _ _ hP hS (lv_sub hl [2, 3, 4, 5, 6] rfl)
    · have hf := (if_pos c5).symm.trans hf
      refine lv_aload_n C.1 C.2.1 dL_law_357 rfl (lv_at hl 5 rfl) ?_
      refine lv_iconst (v := 0) C.1 C.2.1 dL_law_358 (by decide) ?_
      refine k_lald C hP dL_law_359 ?_
      refine lv_iload C.1 C.2.1 dL_law_360 (lv_at hl 0 rfl) ?_
      refine lv_i2l (v := (Int32.toInt64 r2.1)) C.1 C.2.1 dL_law_362 rfl ?_
      refine W.lcmp C.1 C.2.1 dL_law_363 ?_
      refine lv_if_eq (tgt := 369) C.1 C.2.1 dL_law_364 (by decide) (fun c6 => ?_) (fun c6 => ?_)
      · have hf := (if_pos c6).symm.trans hf
        refine lv_goto (tgt := 1385) C.1 C.2.1 dL_law_369 (by decide) ?_
        cases hf
        exact hgo _ _ _ hP hS (lv_sub hl [2, 3, 4, 5, 6] rfl)
      · have hf := (if_neg c6).symm.trans hf
        refine lv_iconst (v := 0) C.1 C.2.1 dL_law_367 (by decide) ?_
        cases hf
  · have hf := (if_neg c4).symm.trans hf
    refine lv_iconst (v := 0) C.1 C.2.1 dL_law_350 (by decide) ?_
    cases hf
set_option maxHeartbeats 4000000 in
set_option maxRecDepth 100000 in
theorem w_lc3 {w : WT} {p : Program} {l : Launch} {e : Env} {s : State} {m : MethodId} {args : Array Value} {below : List Frame} {meth : Method} {c : Code} {cells slots : Nat} {Q : State → Prop} (C : KC w p s m args meth c cL_law 9 RL (some .boolean)) (hfl : l.stackTraces = false) {b Ln j : Nat} {xs : Nat → Int32} (K : KW w s b Ln xs) (hj : 4 * j + 4 ≤ Ln) {a1 a2 a3 : Int32} (e1 : xs (4 * j + 1) = a1) (e2 : xs (4 * j + 2) = a2) (e3 : xs (4 * j + 3) = a3) (hc1 : cells + 1 ≤ room_1.cells) (hs1 : slots + 6 ≤ room_1.slots) {M : Mem} {L : Lng} {out : Mem × Lng} (hf : f_lc3 a1 a2 a3 M L = some (.inl out))
    (hgo : ∀ (H : Heap) (locs : List Loc) (ls : Array Slot), va_P (wD w) vwCl (pic w out.1 out.2) H → va_S (wA w) s.heap H locs → lv_has ls 9 [(0, .ref b), (1, .ref (wAd w 0)), (2, .ref (wAd w 90)), (3, .ref (wAd w 108)), (4, .int (nI (4 * j)))] → W p l e room_1 s m args below meth c H locs (cells + 1) (slots + 6) Q (F0 m 1385 ls []))
    (H : Heap) (locs : List Loc) (ls : Array Slot) (hP : va_P (wD w) vwCl (pic w M L) H) (hS : va_S (wA w) s.heap H locs) (hl : lv_has ls 9 [(0, .ref b), (1, .ref (wAd w 0)), (2, .ref (wAd w 90)), (3, .ref (wAd w 108)), (4, .int (nI (4 * j)))]) : W p l e room_1 s m args below meth c H locs cells slots Q (F0 m 372 ls []) := by
  unfold f_lc3 at hf
  refine lv_aload_n C.1 C.2.1 dL_law_372 rfl (lv_at hl 1 rfl) ?_
  refine lv_aload_n C.1 C.2.1 dL_law_373 rfl (lv_at hl 0 rfl) ?_
  refine lv_iload C.1 C.2.1 dL_law_374 (lv_at hl 4 rfl) ?_
  refine lv_iconst (v := 1) C.1 C.2.1 dL_law_376 (by decide) ?_
  refine lv_iadd C.1 C.2.1 dL_law_377 ?_
  refine k_sld C K hS (4 * j + 1) (by omega) (nI_k1 j) e1 dL_law_378 ?_
  refine lv_aload_n C.1 C.2.1 dL_law_379 rfl (lv_at hl 3 rfl) ?_
  obtain ⟨r1, hr1, hf⟩ := ob hf
  refine kcim (kLW (As := [.ref (wAd w 0), .int a1, .ref (wAd w 108)]) (rest := []) C K hl.1 hP hS (c_L_forget w l C.2.2.2.2.2.2.2.2 hfl hr1) q697 q698 q0 q699 hd_L_forget ⟨rfl, rfl⟩ ⟨Nat.le_of_ble_eq_true rfl, Nat.le_of_ble_eq_true rfl⟩ rfl rfl (Nat.le_of_ble_eq_true rfl) dL_law_380 ⟨hc1, hs1⟩) hS (fun H locs hP hS => ?_)
  refine lv_istore (lv' := [(5, .int r1.1), (0, .ref b), (1, .ref (wAd w 0)), (2, .ref (wAd w 90)), (3, .ref (wAd w 108)), (4, .int (nI (4 * j)))]) C.1 C.2.1 dL_law_383 hl (by decide) rfl (fun ls hl => ?_)
  refine lv_aload_n C.1 C.2.1 dL_law_385 rfl (lv_at hl 3 rfl) ?_
  refine lv_aload_n C.1 C.2.1 dL_law_386 rfl (lv_at hl 1 rfl) ?_
  refine lv_iload C.1 C.2.1 dL_law_387 (lv_at hl 5 rfl) ?_
  refine lv_iconst (v := 1) C.1 C.2.1 dL_law_389 (by decide) ?_
  refine lv_iadd C.1 C.2.1 dL_law_390 ?_
  refine k_sld C K hS (4 * j + 1) (by omega) (nI_k1 j) e1 dL_law_391 ?_
  obtain ⟨r2, hr2, hf⟩ := ob hf
  refine kci (kV (As := [.int a1]) (rest := []) C hl.1 hP hS (c_X9_forget w l C.2.2.2.2.2.2.2.2 (L := r1.2.2) hr2) (gV q1024 q1025 q1026 q10 q1027) hd_X9_forget (lt_Model h0_Model) (ob_Model h0_Model w r1.2.2 _) rfl ⟨rfl, rfl⟩ ⟨Nat.le_of_ble_eq_true rfl, Nat.le_of_ble_eq_true rfl⟩ rfl rfl (Nat.le_of_ble_eq_true rfl) dL_law_392 ⟨hc1, hs1⟩) hS (fun H locs hP hS => ?_)
  refine lv_istore (lv' := [(6, .int r2.1), (5, .int r1.1), (0, .ref b), (1, .ref (wAd w 0)), (2, .ref (wAd w 90)), (3, .ref (wAd w 108)), (4, .int (nI (4 * j)))]) C.1 C.2.1 dL_law_395 hl (by decide) rfl (fun ls hl => ?_)
  refine lv_aload_n C.1 C.2.1 dL_law_397 rfl (lv_at hl 4 rfl) ?_
  obtain ⟨r3, hr3, hf⟩ := ob hf
  refine kci (kV (As := []) (rest := []) C hl.1 hP hS (c_X9_thrown w l C.2.2.2.2.2.2.2.2 (L := r1.2.2) hr3) (gV q948 q949 q950 q10 q951) hd_X9_thrown (lt_Model h0_Model) (ob_Model h0_Model w r1.2.2 _) rfl ⟨rfl, rfl⟩ ⟨Nat.le_of_ble_eq_true rfl, Nat.le_of_ble_eq_true rfl⟩ rfl rfl (Nat.le_of_ble_eq_true rfl) dL_law_398 ⟨hc1, hs1⟩) hS (fun H locs hP hS => ?_)
  refine lv_iload C.1 C.2.1 dL_law_401 (lv_at hl 1 rfl) ?_
  refine lv_icmp_eq (tgt := 408) C.1 C.2.1 dL_law_403 (by decide) (fun c4 => ?_) (fun c4 => ?_)
  · have hf := (if_pos c4).symm.trans hf
    refine lv_iload C.1 C.2.1 dL_law_408 (lv_at hl 1 rfl) ?_
    refine lv_if_ne (tgt := 425) C.1 C.2.1 dL_law_410 (by decide) (fun c5 => ?_) (fun c5 => ?_)
    · have hf := (if_neg c5).symm.trans hf
      refine lv_goto (tgt := 1385) C.1 C.2.1 dL_law_425 (by decide) ?_
      cases hf
      exact hgo _ _ _ hP hS (lv_sub hl [2, 3, 4, 5, 6] rfl)
    · have hf := (if_pos c5).symm.trans hf
      refine lv_aload_n C.1 C.2.1 dL_law_413 rfl (lv_at hl 5 rfl) ?_
      refine lv_iconst (v := 0) C.1 C.2.1 dL_law_414 (by decide) ?_
      refine k_lald C hP dL_law_415 ?_
      refine lv_iload C.1 C.2.1 dL_law_416 (lv_at hl 0 rfl) ?_
      refine lv_i2l (v := (Int32.toInt64 r2.1)) C.1 C.2.1 dL_law_418 rfl ?_
      refine W.lcmp C.1 C.2.1 dL_law_419 ?_
      refine lv_if_eq (tgt := 425) C.1 C.2.1 dL_law_420 (by decide) (fun c6 => ?_) (fun c6 => ?_)
      · have hf := (if_pos c6).symm.trans hf
        refine lv_goto (tgt := 1385) C.1 C.2.1 dL_law_425 (by decide) ?_
        cases hf
        exact hgo _ _ _ hP hS (lv_sub hl [2, 3, 4, 5, 6] rfl)
      · have hf := (if_neg c6).symm.trans hf
        refine lv_iconst (v := 0) C.1 C.2.1 dL_law_423 (by decide) ?_
        cases hf
  · have hf := (if_neg c4).symm.trans hf
    refine lv_iconst (v := 0) C.1 C.2.1 dL_law_406 (by decide) ?_
    cases hf
set_option maxHeartbeats 4000000 in
set_option maxRecDepth 100000 in
theorem w_lc4 {w : WT} {p : Program} {l : Launch} {e : Env} {s : State} {m : MethodId} {args : Array Value} {below : List Frame} {meth : Method} {c : Code} {cells slots : Nat} {Q : State → Prop} (C : KC w p s m args meth c cL_law 9 RL (some .boolean)) (hfl : l.stackTraces = false) {b Ln j : Nat} {xs : Nat → Int32} (K : KW w s b Ln xs) (hj : 4 * j + 4 ≤ Ln) {a1 a2 a3 : Int32} (e1 : xs (4 * j + 1) = a1) (e2 : xs (4 * j + 2) = a2) (e3 : xs (4 * j + 3) = a3) (hc1 : cells + 1 ≤ room_1.cells) (hs1 : slots + 6 ≤ room_1.slots) {M : Mem} {L : Lng} {out : Mem × Lng} (hf : f_lc4 a1 a2 a3 M L = some (.inl out))
    (hgo : ∀ (H : Heap) (locs : List Loc) (ls : Array Slot), va_P (wD w) vwCl (pic w out.1 out.2) H → va_S (wA w) s.heap H locs → lv_has ls 9 [(0, .ref b), (1, .ref (wAd w 0)), (2, .ref (wAd w 90)), (3, .ref (wAd w 108)), (4, .int (nI (4 * j)))] → W p l e room_1 s m args below meth c H locs (cells + 1) (slots + 6) Q (F0 m 1385 ls []))
    (H : Heap) (locs : List Loc) (ls : Array Slot) (hP : va_P (wD w) vwCl (pic w M L) H) (hS : va_S (wA w) s.heap H locs) (hl : lv_has ls 9 [(0, .ref b), (1, .ref (wAd w 0)), (2, .ref (wAd w 90)), (3, .ref (wAd w 108)), (4, .int (nI (4 * j)))]) : W p l e room_1 s m args below meth c H locs cells slots Q (F0 m 428 ls []) := by
  unfold f_lc4 at hf
  refine lv_aload_n C.1 C.2.1 dL_law_428 rfl (lv_at hl 1 rfl) ?_
  refine lv_aload_n C.1 C.2.1 dL_law_429 rfl (lv_at hl 0 rfl) ?_
  refine lv_iload C.1 C.2.1 dL_law_430 (lv_at hl 4 rfl) ?_
  refine lv_iconst (v := 1) C.1 C.2.1 dL_law_432 (by decide) ?_
  refine lv_iadd C.1 C.2.1 dL_law_433 ?_
  refine k_sld C K hS (4 * j + 1) (by omega) (nI_k1 j) e1 dL_law_434 ?_
  refine lv_aload_n C.1 C.2.1 dL_law_435 rfl (lv_at hl 3 rfl) ?_
  obtain ⟨r1, hr1, hf⟩ := ob hf
  refine kcim (kLW (As := [.ref (wAd w 0), .int a1, .ref (wAd w 108)]) (rest := []) C K hl.1 hP hS (c_L_complain w l C.2.2.2.2.2.2.2.2 hfl hr1) q710 q711 q0 q712 hd_L_complain ⟨rfl, rfl⟩ ⟨Nat.le_of_ble_eq_true rfl, Nat.le_of_ble_eq_true rfl⟩ rfl rfl (Nat.le_of_ble_eq_true rfl) dL_law_436 ⟨hc1, hs1⟩) hS (fun H locs hP hS => ?_)
  refine lv_istore (lv' := [(5, .int r1.1), (0, .ref b), (1, .ref (wAd w 0)), (2, .ref (wAd w 90)), (3, .ref (wAd w 108)), (4, .int (nI (4 * j)))]) C.1 C.2.1 dL_law_439 hl (by decide) rfl (fun ls hl => ?_)
  refine lv_aload_n C.1 C.2.1 dL_law_441 rfl (lv_at hl 3 rfl) ?_
  refine lv_aload_n C.1 C.2.1 dL_law_442 rfl (lv_at hl 1 rfl) ?_
  refine lv_iload C.1 C.2.1 dL_law_443 (lv_at hl 5 rfl) ?_
  refine lv_iconst (v := 1) C.1 C.2.1 dL_law_445 (by decide) ?_
  refine lv_iadd C.1 C.2.1 dL_law_446 ?_
  refine k_sld C K hS (4 * j + 1) (by omega) (nI_k1 j) e1 dL_law_447 ?_
  obtain ⟨r2, hr2, hf⟩ := ob hf
  refine kci (kV (As := [.int a1]) (rest := []) C hl.1 hP hS (c_X9_complain w l C.2.2.2.2.2.2.2.2 (L := r1.2.2) hr2) (gV q1028 q1029 q1030 q10 q1031) hd_X9_complain (lt_Model h0_Model) (ob_Model h0_Model w r1.2.2 _) rfl ⟨rfl, rfl⟩ ⟨Nat.le_of_ble_eq_true rfl, Nat.le_of_ble_eq_true rfl⟩ rfl rfl (Nat.le_of_ble_eq_true rfl) dL_law_448 ⟨hc1, hs1⟩) hS (fun H locs hP hS => ?_)
  refine lv_istore (lv' := [(6, .int r2.1), (5, .int r1.1), (0, .ref b), (1, .ref (wAd w 0)), (2, .ref (wAd w 90)), (3, .ref (wAd w 108)), (4, .int (nI (4 * j)))]) C.1 C.2.1 dL_law_451 hl (by decide) rfl (fun ls hl => ?_)
  refine lv_aload_n C.1 C.2.1 dL_law_453 rfl (lv_at hl 4 rfl) ?_
  obtain ⟨r3, hr3, hf⟩ := ob hf
  refine kci (kV (As := []) (rest := []) C hl.1 hP hS (c_X9_thrown w l C.2.2.2.2.2.2.2.2 (L := r1.2.2) hr3) (gV q948 q949 q950 q10 q951) hd_X9_thrown (lt_Model h0_Model) (ob_Model h0_Model w r1.2.2 _) rfl ⟨rfl, rfl⟩ ⟨Nat.le_of_ble_eq_true rfl, Nat.le_of_ble_eq_true rfl⟩ rfl rfl (Nat.le_of_ble_eq_true rfl) dL_law_454 ⟨hc1, hs1⟩) hS (fun H locs hP hS => ?_)
  refine lv_iload C.1 C.2.1 dL_law_457 (lv_at hl 1 rfl) ?_
  refine lv_icmp_eq (tgt := 464) C.1 C.2.1 dL_law_459 (by decide) (fun c4 => ?_) (fun c4 => ?_)
  · have hf := (if_pos c4).symm.trans hf
    refine lv_iload C.1 C.2.1 dL_law_464 (lv_at hl 1 rfl) ?_
    refine lv_if_ne (tgt := 481) C.1 C.2.1 dL_law_466 (by decide) (fun c5 => ?_) (fun c5 => ?_)
    · have hf := (if_neg c5).symm.trans hf
      refine lv_goto (tgt := 1385) C.1 C.2.1 dL_law_481 (by decide) ?_
      cases hf
      exact hgo _ _ _ hP hS (lv_sub hl [2, 3, 4, 5, 6] rfl)
    · have hf := (if_pos c5).symm.trans hf
      refine lv_aload_n C.1 C.2.1 dL_law_469 rfl (lv_at hl 5 rfl) ?_
      refine lv_iconst (v := 0) C.1 C.2.1 dL_law_470 (by decide) ?_
      refine k_lald C hP dL_law_471 ?_
      refine lv_iload C.1 C.2.1 dL_law_472 (lv_at hl 0 rfl) ?_
      refine lv_i2l (v := (Int32.toInt64 r2.1)) C.1 C.2.1 dL_law_474 rfl ?_
      refine W.lcmp C.1 C.2.1 dL_law_475 ?_
      refine lv_if_eq (tgt := 481) C.1 C.2.1 dL_law_476 (by decide) (fun c6 => ?_) (fun c6 => ?_)
      · have hf := (if_pos c6).symm.trans hf
        refine lv_goto (tgt := 1385) C.1 C.2.1 dL_law_481 (by decide) ?_
        cases hf
        exact hgo _ _ _ hP hS (lv_sub hl [2, 3, 4, 5, 6] rfl)
      · have hf := (if_neg c6).symm.trans hf
        refine lv_iconst (v := 0) C.1 C.2.1 dL_law_479 (by decide) ?_
        cases hf
  · have hf := (if_neg c4).symm.trans hf
    refine lv_iconst (v := 0) C.1 C.2.1 dL_law_462 (by decide) ?_
    cases hf
set_option maxHeartbeats 4000000 in
set_option maxRecDepth 100000 in
theorem w_lc5 {w : WT} {p : Program} {l : Launch} {e : Env} {s : State} {m : MethodId} {args : Array Value} {below : List Frame} {meth : Method} {c : Code} {cells slots : Nat} {Q : State → Prop} (C : KC w p s m args meth c cL_law 9 RL (some .boolean)) (hfl : l.stackTraces = false) {b Ln j : Nat} {xs : Nat → Int32} (K : KW w s b Ln xs) (hj : 4 * j + 4 ≤ Ln) {a1 a2 a3 : Int32} (e1 : xs (4 * j + 1) = a1) (e2 : xs (4 * j + 2) = a2) (e3 : xs (4 * j + 3) = a3) (hc1 : cells + 1 ≤ room_1.cells) (hs1 : slots + 6 ≤ room_1.slots) {M : Mem} {L : Lng} {out : Mem × Lng} (hf : f_lc5 a1 a2 a3 M L = some (.inl out))
    (hgo : ∀ (H : Heap) (locs : List Loc) (ls : Array Slot), va_P (wD w) vwCl (pic w out.1 out.2) H → va_S (wA w) s.heap H locs → lv_has ls 9 [(0, .ref b), (1, .ref (wAd w 0)), (2, .ref (wAd w 90)), (3, .ref (wAd w 108)), (4, .int (nI (4 * j)))] → W p l e room_1 s m args below meth c H locs (cells + 1) (slots + 6) Q (F0 m 1385 ls []))
    (H : Heap) (locs : List Loc) (ls : Array Slot) (hP : va_P (wD w) vwCl (pic w M L) H) (hS : va_S (wA w) s.heap H locs) (hl : lv_has ls 9 [(0, .ref b), (1, .ref (wAd w 0)), (2, .ref (wAd w 90)), (3, .ref (wAd w 108)), (4, .int (nI (4 * j)))]) : W p l e room_1 s m args below meth c H locs cells slots Q (F0 m 484 ls []) := by
  unfold f_lc5 at hf
  refine lv_aload_n C.1 C.2.1 dL_law_484 rfl (lv_at hl 1 rfl) ?_
  refine lv_aload_n C.1 C.2.1 dL_law_485 rfl (lv_at hl 0 rfl) ?_
  refine lv_iload C.1 C.2.1 dL_law_486 (lv_at hl 4 rfl) ?_
  refine lv_iconst (v := 1) C.1 C.2.1 dL_law_488 (by decide) ?_
  refine lv_iadd C.1 C.2.1 dL_law_489 ?_
  refine k_sld C K hS (4 * j + 1) (by omega) (nI_k1 j) e1 dL_law_490 ?_
  refine lv_aload_n C.1 C.2.1 dL_law_491 rfl (lv_at hl 3 rfl) ?_
  obtain ⟨r1, hr1, hf⟩ := ob hf
  refine kcim (kLW (As := [.ref (wAd w 0), .int a1, .ref (wAd w 108)]) (rest := []) C K hl.1 hP hS (c_L_withdraw w l C.2.2.2.2.2.2.2.2 hfl hr1) q723 q724 q0 q725 hd_L_withdraw ⟨rfl, rfl⟩ ⟨Nat.le_of_ble_eq_true rfl, Nat.le_of_ble_eq_true rfl⟩ rfl rfl (Nat.le_of_ble_eq_true rfl) dL_law_492 ⟨hc1, hs1⟩) hS (fun H locs hP hS => ?_)
  refine lv_istore (lv' := [(5, .int r1.1), (0, .ref b), (1, .ref (wAd w 0)), (2, .ref (wAd w 90)), (3, .ref (wAd w 108)), (4, .int (nI (4 * j)))]) C.1 C.2.1 dL_law_495 hl (by decide) rfl (fun ls hl => ?_)
  refine lv_aload_n C.1 C.2.1 dL_law_497 rfl (lv_at hl 3 rfl) ?_
  refine lv_aload_n C.1 C.2.1 dL_law_498 rfl (lv_at hl 1 rfl) ?_
  refine lv_iload C.1 C.2.1 dL_law_499 (lv_at hl 5 rfl) ?_
  refine lv_iconst (v := 1) C.1 C.2.1 dL_law_501 (by decide) ?_
  refine lv_iadd C.1 C.2.1 dL_law_502 ?_
  refine k_sld C K hS (4 * j + 1) (by omega) (nI_k1 j) e1 dL_law_503 ?_
  obtain ⟨r2, hr2, hf⟩ := ob hf
  refine kci (kV (As := [.int a1]) (rest := []) C hl.1 hP hS (c_X9_withdraw w l C.2.2.2.2.2.2.2.2 (L := r1.2.2) hr2) (gV q1032 q1033 q1034 q10 q1035) hd_X9_withdraw (lt_Model h0_Model) (ob_Model h0_Model w r1.2.2 _) rfl ⟨rfl, rfl⟩ ⟨Nat.le_of_ble_eq_true rfl, Nat.le_of_ble_eq_true rfl⟩ rfl rfl (Nat.le_of_ble_eq_true rfl) dL_law_504 ⟨hc1, hs1⟩) hS (fun H locs hP hS => ?_)
  refine lv_istore (lv' := [(6, .int r2.1), (5, .int r1.1), (0, .ref b), (1, .ref (wAd w 0)), (2, .ref (wAd w 90)), (3, .ref (wAd w 108)), (4, .int (nI (4 * j)))]) C.1 C.2.1 dL_law_507 hl (by decide) rfl (fun ls hl => ?_)
  refine lv_aload_n C.1 C.2.1 dL_law_509 rfl (lv_at hl 4 rfl) ?_
  obtain ⟨r3, hr3, hf⟩ := ob hf
  refine kci (kV (As := []) (rest := []) C hl.1 hP hS (c_X9_thrown w l C.2.2.2.2.2.2.2.2 (L := r1.2.2) hr3) (gV q948 q949 q950 q10 q951) hd_X9_thrown (lt_Model h0_Model) (ob_Model h0_Model w r1.2.2 _) rfl ⟨rfl, rfl⟩ ⟨Nat.le_of_ble_eq_true rfl, Nat.le_of_ble_eq_true rfl⟩ rfl rfl (Nat.le_of_ble_eq_true rfl) dL_law_510 ⟨hc1, hs1⟩) hS (fun H locs hP hS => ?_)
  refine lv_iload C.1 C.2.1 dL_law_513 (lv_at hl 1 rfl) ?_
  refine lv_icmp_eq (tgt := 520) C.1 C.2.1 dL_law_515 (by decide) (fun c4 => ?_) (fun c4 => ?_)
  · have hf := (if_pos c4).symm.trans hf
    refine lv_iload C.1 C.2.1 dL_law_520 (lv_at hl 1 rfl) ?_
    refine lv_if_ne (tgt := 537) C.1 C.2.1 dL_law_522 (by decide) (fun c5 => ?_) (fun c5 => ?_)
    · have hf := (if_neg c5).symm.trans hf
      refine lv_goto (tgt := 1385) C.1 C.2.1 dL_law_537 (by decide) ?_
      cases hf
      exact hgo _ _ _ hP hS (lv_sub hl [2, 3, 4, 5, 6] rfl)
    · have hf := (if_pos c5).symm.trans hf
      refine lv_aload_n C.1 C.2.1 dL_law_525 rfl (lv_at hl 5 rfl) ?_
      refine lv_iconst (v := 0) C.1 C.2.1 dL_law_526 (by decide) ?_
      refine k_lald C hP dL_law_527 ?_
      refine lv_iload C.1 C.2.1 dL_law_528 (lv_at hl 0 rfl) ?_
      refine lv_i2l (v := (Int32.toInt64 r2.1)) C.1 C.2.1 dL_law_530 rfl ?_
      refine W.lcmp C.1 C.2.1 dL_law_531 ?_
      refine lv_if_eq (tgt := 537) C.1 C.2.1 dL_law_532 (by decide) (fun c6 => ?_) (fun c6 => ?_)
      · have hf := (if_pos c6).symm.trans hf
        refine lv_goto (tgt := 1385) C.1 C.2.1 dL_law_537 (by decide) ?_
        cases hf
        exact hgo _ _ _ hP hS (lv_sub hl [2, 3, 4, 5, 6] rfl)
      · have hf := (if_neg c6).symm.trans hf
        refine lv_iconst (v := 0) C.1 C.2.1 dL_law_535 (by decide) ?_
        cases hf
  · have hf := (if_neg c4).symm.trans hf
    refine lv_iconst (v := 0) C.1 C.2.1 dL_law_518 (by decide) ?_
    cases hf
set_option maxHeartbeats 4000000 in
set_option maxRecDepth 100000 in
theorem w_lc6 {w : WT} {p : Program} {l : Launch} {e : Env} {s : State} {m : MethodId} {args : Array Value} {below : List Frame} {meth : Method} {c : Code} {cells slots : Nat} {Q : State → Prop} (C : KC w p s m args meth c cL_law 9 RL (some .boolean)) (hfl : l.stackTraces = false) {b Ln j : Nat} {xs : Nat → Int32} (K : KW w s b Ln xs) (hj : 4 * j + 4 ≤ Ln) {a1 a2 a3 : Int32} (e1 : xs (4 * j + 1) = a1) (e2 : xs (4 * j + 2) = a2) (e3 : xs (4 * j + 3) = a3) (hc1 : cells + 1 ≤ room_1.cells) (hs1 : slots + 6 ≤ room_1.slots) {M : Mem} {L : Lng} {out : Mem × Lng} (hf : f_lc6 a1 a2 a3 M L = some (.inl out))
    (hgo : ∀ (H : Heap) (locs : List Loc) (ls : Array Slot), va_P (wD w) vwCl (pic w out.1 out.2) H → va_S (wA w) s.heap H locs → lv_has ls 9 [(0, .ref b), (1, .ref (wAd w 0)), (2, .ref (wAd w 90)), (3, .ref (wAd w 108)), (4, .int (nI (4 * j)))] → W p l e room_1 s m args below meth c H locs (cells + 1) (slots + 6) Q (F0 m 1385 ls []))
    (H : Heap) (locs : List Loc) (ls : Array Slot) (hP : va_P (wD w) vwCl (pic w M L) H) (hS : va_S (wA w) s.heap H locs) (hl : lv_has ls 9 [(0, .ref b), (1, .ref (wAd w 0)), (2, .ref (wAd w 90)), (3, .ref (wAd w 108)), (4, .int (nI (4 * j)))]) : W p l e room_1 s m args below meth c H locs cells slots Q (F0 m 540 ls []) := by
  unfold f_lc6 at hf
  refine lv_aload_n C.1 C.2.1 dL_law_540 rfl (lv_at hl 1 rfl) ?_
  refine lv_aload_n C.1 C.2.1 dL_law_541 rfl (lv_at hl 0 rfl) ?_
  refine lv_iload C.1 C.2.1 dL_law_542 (lv_at hl 4 rfl) ?_
  refine lv_iconst (v := 1) C.1 C.2.1 dL_law_544 (by decide) ?_
  refine lv_iadd C.1 C.2.1 dL_law_545 ?_
  refine k_sld C K hS (4 * j + 1) (by omega) (nI_k1 j) e1 dL_law_546 ?_
  refine lv_aload_n C.1 C.2.1 dL_law_547 rfl (lv_at hl 3 rfl) ?_
  obtain ⟨r1, hr1, hf⟩ := ob hf
  refine kcim (kLW (As := [.ref (wAd w 0), .int a1, .ref (wAd w 108)]) (rest := []) C K hl.1 hP hS (c_L_append w l C.2.2.2.2.2.2.2.2 hfl hr1) q739 q740 q0 q741 hd_L_append ⟨rfl, rfl⟩ ⟨Nat.le_of_ble_eq_true rfl, Nat.le_of_ble_eq_true rfl⟩ rfl rfl (Nat.le_of_ble_eq_true rfl) dL_law_548 ⟨hc1, hs1⟩) hS (fun H locs hP hS => ?_)
  refine lv_istore (lv' := [(5, .int r1.1), (0, .ref b), (1, .ref (wAd w 0)), (2, .ref (wAd w 90)), (3, .ref (wAd w 108)), (4, .int (nI (4 * j)))]) C.1 C.2.1 dL_law_551 hl (by decide) rfl (fun ls hl => ?_)
  refine lv_aload_n C.1 C.2.1 dL_law_553 rfl (lv_at hl 3 rfl) ?_
  refine lv_aload_n C.1 C.2.1 dL_law_554 rfl (lv_at hl 1 rfl) ?_
  refine lv_iload C.1 C.2.1 dL_law_555 (lv_at hl 5 rfl) ?_
  refine lv_iconst (v := 1) C.1 C.2.1 dL_law_557 (by decide) ?_
  refine lv_iadd C.1 C.2.1 dL_law_558 ?_
  refine k_sld C K hS (4 * j + 1) (by omega) (nI_k1 j) e1 dL_law_559 ?_
  obtain ⟨r2, hr2, hf⟩ := ob hf
  refine kci (kV (As := [.int a1]) (rest := []) C hl.1 hP hS (c_X9_append w l C.2.2.2.2.2.2.2.2 (L := r1.2.2) hr2) (gV q1052 q1053 q1054 q10 q1055) hd_X9_append (lt_Model h0_Model) (ob_Model h0_Model w r1.2.2 _) rfl ⟨rfl, rfl⟩ ⟨Nat.le_of_ble_eq_true rfl, Nat.le_of_ble_eq_true rfl⟩ rfl rfl (Nat.le_of_ble_eq_true rfl) dL_law_560 ⟨hc1, hs1⟩) hS (fun H locs hP hS => ?_)
  refine lv_istore (lv' := [(6, .int r2.1), (5, .int r1.1), (0, .ref b), (1, .ref (wAd w 0)), (2, .ref (wAd w 90)), (3, .ref (wAd w 108)), (4, .int (nI (4 * j)))]) C.1 C.2.1 dL_law_563 hl (by decide) rfl (fun ls hl => ?_)
  refine lv_aload_n C.1 C.2.1 dL_law_565 rfl (lv_at hl 4 rfl) ?_
  obtain ⟨r3, hr3, hf⟩ := ob hf
  refine kci (kV (As := []) (rest := []) C hl.1 hP hS (c_X9_thrown w l C.2.2.2.2.2.2.2.2 (L := r1.2.2) hr3) (gV q948 q949 q950 q10 q951) hd_X9_thrown (lt_Model h0_Model) (ob_Model h0_Model w r1.2.2 _) rfl ⟨rfl, rfl⟩ ⟨Nat.le_of_ble_eq_true rfl, Nat.le_of_ble_eq_true rfl⟩ rfl rfl (Nat.le_of_ble_eq_true rfl) dL_law_566 ⟨hc1, hs1⟩) hS (fun H locs hP hS => ?_)
  refine lv_iload C.1 C.2.1 dL_law_569 (lv_at hl 1 rfl) ?_
  refine lv_icmp_eq (tgt := 576) C.1 C.2.1 dL_law_571 (by decide) (fun c4 => ?_) (fun c4 => ?_)
  · have hf := (if_pos c4).symm.trans hf
    refine lv_iload C.1 C.2.1 dL_law_576 (lv_at hl 1 rfl) ?_
    refine lv_if_ne (tgt := 593) C.1 C.2.1 dL_law_578 (by decide) (fun c5 => ?_) (fun c5 => ?_)
    · have hf := (if_neg c5).symm.trans hf
      refine lv_goto (tgt := 1385) C.1 C.2.1 dL_law_593 (by decide) ?_
      cases hf
      exact hgo _ _ _ hP hS (lv_sub hl [2, 3, 4, 5, 6] rfl)
    · have hf := (if_pos c5).symm.trans hf
      refine lv_aload_n C.1 C.2.1 dL_law_581 rfl (lv_at hl 5 rfl) ?_
      refine lv_iconst (v := 0) C.1 C.2.1 dL_law_582 (by decide) ?_
      refine k_lald C hP dL_law_583 ?_
      refine lv_iload C.1 C.2.1 dL_law_584 (lv_at hl 0 rfl) ?_
      refine lv_i2l (v := (Int32.toInt64 r2.1)) C.1 C.2.1 dL_law_586 rfl ?_
      refine W.lcmp C.1 C.2.1 dL_law_587 ?_
      refine lv_if_eq (tgt := 593) C.1 C.2.1 dL_law_588 (by decide) (fun c6 => ?_) (fun c6 => ?_)
      · have hf := (if_pos c6).symm.trans hf
        refine lv_goto (tgt := 1385) C.1 C.2.1 dL_law_593 (by decide) ?_
        cases hf
        exact hgo _ _ _ hP hS (lv_sub hl [2, 3, 4, 5, 6] rfl)
      · have hf := (if_neg c6).symm.trans hf
        refine lv_iconst (v := 0) C.1 C.2.1 dL_law_591 (by decide) ?_
        cases hf
  · have hf := (if_neg c4).symm.trans hf
    refine lv_iconst (v := 0) C.1 C.2.1 dL_law_574 (by decide) ?_
    cases hf
set_option maxHeartbeats 4000000 in
set_option maxRecDepth 100000 in
theorem w_lc7 {w : WT} {p : Program} {l : Launch} {e : Env} {s : State} {m : MethodId} {args : Array Value} {below : List Frame} {meth : Method} {c : Code} {cells slots : Nat} {Q : State → Prop} (C : KC w p s m args meth c cL_law 9 RL (some .boolean)) (hfl : l.stackTraces = false) {b Ln j : Nat} {xs : Nat → Int32} (K : KW w s b Ln xs) (hj : 4 * j + 4 ≤ Ln) {a1 a2 a3 : Int32} (e1 : xs (4 * j + 1) = a1) (e2 : xs (4 * j + 2) = a2) (e3 : xs (4 * j + 3) = a3) (hc1 : cells + 1 ≤ room_1.cells) (hs1 : slots + 6 ≤ room_1.slots) {M : Mem} {L : Lng} {out : Mem × Lng} (hf : f_lc7 a1 a2 a3 M L = some (.inl out))
    (hgo : ∀ (H : Heap) (locs : List Loc) (ls : Array Slot), va_P (wD w) vwCl (pic w out.1 out.2) H → va_S (wA w) s.heap H locs → lv_has ls 9 [(0, .ref b), (1, .ref (wAd w 0)), (2, .ref (wAd w 90)), (3, .ref (wAd w 108)), (4, .int (nI (4 * j)))] → W p l e room_1 s m args below meth c H locs (cells + 1) (slots + 6) Q (F0 m 1385 ls []))
    (H : Heap) (locs : List Loc) (ls : Array Slot) (hP : va_P (wD w) vwCl (pic w M L) H) (hS : va_S (wA w) s.heap H locs) (hl : lv_has ls 9 [(0, .ref b), (1, .ref (wAd w 0)), (2, .ref (wAd w 90)), (3, .ref (wAd w 108)), (4, .int (nI (4 * j)))]) : W p l e room_1 s m args below meth c H locs cells slots Q (F0 m 596 ls []) := by
  unfold f_lc7 at hf
  refine W.widen (k := cells + 1) (n := slots + 6) (Nat.le_add_right _ _) (Nat.le_add_right _ _) ?_
  refine lv_aload_n C.1 C.2.1 dL_law_596 rfl (lv_at hl 1 rfl) ?_
  obtain ⟨r1, hr1, hf⟩ := ob hf
  refine kci (kV (As := []) (rest := []) C hl.1 hP hS (c_X8_clearBuffer w l C.2.2.2.2.2.2.2.2 (L := L) hr1) (gV q303 q304 q305 q1 q306) hd_X8_clearBuffer (lt_NoisePost h0_NoisePost) (ob_NoisePost h0_NoisePost w L _) rfl ⟨rfl, rfl⟩ ⟨Nat.le_of_ble_eq_true rfl, Nat.le_of_ble_eq_true rfl⟩ rfl rfl (Nat.le_of_ble_eq_true rfl) dL_law_597 ⟨hc1, hs1⟩) hS (fun H locs hP hS => ?_)
  refine lv_aload_n C.1 C.2.1 dL_law_600 rfl (lv_at hl 2 rfl) ?_
  obtain ⟨r2, hr2, hf⟩ := ob hf
  refine kci (kV (As := []) (rest := [.int r1.1]) C hl.1 hP hS (c_X9_clearBuffer w l C.2.2.2.2.2.2.2.2 (L := L) hr2) (gV q1056 q1057 q1058 q10 q1059) hd_X9_clearBuffer (lt_Model h0_Model) (ob_Model h0_Model w L _) rfl ⟨rfl, rfl⟩ ⟨Nat.le_of_ble_eq_true rfl, Nat.le_of_ble_eq_true rfl⟩ rfl rfl (Nat.le_of_ble_eq_true rfl) dL_law_601 ⟨hc1, hs1⟩) hS (fun H locs hP hS => ?_)
  refine lv_icmp_eq (tgt := 1385) C.1 C.2.1 dL_law_604 (by decide) (fun c3 => ?_) (fun c3 => ?_)
  · have hf := (if_pos c3).symm.trans hf
    cases hf
    exact hgo _ _ _ hP hS hl
  · have hf := (if_neg c3).symm.trans hf
    refine lv_iconst (v := 0) C.1 C.2.1 dL_law_607 (by decide) ?_
    cases hf
set_option maxHeartbeats 4000000 in
set_option maxRecDepth 100000 in
theorem w_lc8 {w : WT} {p : Program} {l : Launch} {e : Env} {s : State} {m : MethodId} {args : Array Value} {below : List Frame} {meth : Method} {c : Code} {cells slots : Nat} {Q : State → Prop} (C : KC w p s m args meth c cL_law 9 RL (some .boolean)) (hfl : l.stackTraces = false) {b Ln j : Nat} {xs : Nat → Int32} (K : KW w s b Ln xs) (hj : 4 * j + 4 ≤ Ln) {a1 a2 a3 : Int32} (e1 : xs (4 * j + 1) = a1) (e2 : xs (4 * j + 2) = a2) (e3 : xs (4 * j + 3) = a3) (hc1 : cells + 1 ≤ room_1.cells) (hs1 : slots + 6 ≤ room_1.slots) {M : Mem} {L : Lng} {out : Mem × Lng} (hf : f_lc8 a1 a2 a3 M L = some (.inl out))
    (hgo : ∀ (H : Heap) (locs : List Loc) (ls : Array Slot), va_P (wD w) vwCl (pic w out.1 out.2) H → va_S (wA w) s.heap H locs → lv_has ls 9 [(0, .ref b), (1, .ref (wAd w 0)), (2, .ref (wAd w 90)), (3, .ref (wAd w 108)), (4, .int (nI (4 * j)))] → W p l e room_1 s m args below meth c H locs (cells + 1) (slots + 6) Q (F0 m 1385 ls []))
    (H : Heap) (locs : List Loc) (ls : Array Slot) (hP : va_P (wD w) vwCl (pic w M L) H) (hS : va_S (wA w) s.heap H locs) (hl : lv_has ls 9 [(0, .ref b), (1, .ref (wAd w 0)), (2, .ref (wAd w 90)), (3, .ref (wAd w 108)), (4, .int (nI (4 * j)))]) : W p l e room_1 s m args below meth c H locs cells slots Q (F0 m 609 ls []) := by
  unfold f_lc8 at hf
  refine W.widen (k := cells + 1) (n := slots + 6) (Nat.le_add_right _ _) (Nat.le_add_right _ _) ?_
  refine lv_aload_n C.1 C.2.1 dL_law_609 rfl (lv_at hl 1 rfl) ?_
  obtain ⟨r1, hr1, hf⟩ := ob hf
  refine kci (kV (As := []) (rest := []) C hl.1 hP hS (c_X8_firstError w l C.2.2.2.2.2.2.2.2 (L := L) hr1) (gV q307 q308 q309 q1 q310) hd_X8_firstError (lt_NoisePost h0_NoisePost) (ob_NoisePost h0_NoisePost w L _) rfl ⟨rfl, rfl⟩ ⟨Nat.le_of_ble_eq_true rfl, Nat.le_of_ble_eq_true rfl⟩ rfl rfl (Nat.le_of_ble_eq_true rfl) dL_law_610 ⟨hc1, hs1⟩) hS (fun H locs hP hS => ?_)
  refine lv_aload_n C.1 C.2.1 dL_law_613 rfl (lv_at hl 2 rfl) ?_
  obtain ⟨r2, hr2, hf⟩ := ob hf
  refine kci (kV (As := []) (rest := [.int r1.1]) C hl.1 hP hS (c_X9_firstError w l C.2.2.2.2.2.2.2.2 (L := L) hr2) (gV q1060 q1061 q1062 q10 q1063) hd_X9_firstError (lt_Model h0_Model) (ob_Model h0_Model w L _) rfl ⟨rfl, rfl⟩ ⟨Nat.le_of_ble_eq_true rfl, Nat.le_of_ble_eq_true rfl⟩ rfl rfl (Nat.le_of_ble_eq_true rfl) dL_law_614 ⟨hc1, hs1⟩) hS (fun H locs hP hS => ?_)
  refine lv_icmp_eq (tgt := 1385) C.1 C.2.1 dL_law_617 (by decide) (fun c3 => ?_) (fun c3 => ?_)
  · have hf := (if_pos c3).symm.trans hf
    cases hf
    exact hgo _ _ _ hP hS hl
  · have hf := (if_neg c3).symm.trans hf
    refine lv_iconst (v := 0) C.1 C.2.1 dL_law_620 (by decide) ?_
    cases hf
set_option maxHeartbeats 4000000 in
set_option maxRecDepth 100000 in
theorem w_lc9 {w : WT} {p : Program} {l : Launch} {e : Env} {s : State} {m : MethodId} {args : Array Value} {below : List Frame} {meth : Method} {c : Code} {cells slots : Nat} {Q : State → Prop} (C : KC w p s m args meth c cL_law 9 RL (some .boolean)) (hfl : l.stackTraces = false) {b Ln j : Nat} {xs : Nat → Int32} (K : KW w s b Ln xs) (hj : 4 * j + 4 ≤ Ln) {a1 a2 a3 : Int32} (e1 : xs (4 * j + 1) = a1) (e2 : xs (4 * j + 2) = a2) (e3 : xs (4 * j + 3) = a3) (hc1 : cells + 1 ≤ room_1.cells) (hs1 : slots + 6 ≤ room_1.slots) {M : Mem} {L : Lng} {out : Mem × Lng} (hf : f_lc9 a1 a2 a3 M L = some (.inl out))
    (hgo : ∀ (H : Heap) (locs : List Loc) (ls : Array Slot), va_P (wD w) vwCl (pic w out.1 out.2) H → va_S (wA w) s.heap H locs → lv_has ls 9 [(0, .ref b), (1, .ref (wAd w 0)), (2, .ref (wAd w 90)), (3, .ref (wAd w 108)), (4, .int (nI (4 * j)))] → W p l e room_1 s m args below meth c H locs (cells + 1) (slots + 6) Q (F0 m 1385 ls []))
    (H : Heap) (locs : List Loc) (ls : Array Slot) (hP : va_P (wD w) vwCl (pic w M L) H) (hS : va_S (wA w) s.heap H locs) (hl : lv_has ls 9 [(0, .ref b), (1, .ref (wAd w 0)), (2, .ref (wAd w 90)), (3, .ref (wAd w 108)), (4, .int (nI (4 * j)))]) : W p l e room_1 s m args below meth c H locs cells slots Q (F0 m 622 ls []) := by
  unfold f_lc9 at hf
  refine lv_aload_n C.1 C.2.1 dL_law_622 rfl (lv_at hl 1 rfl) ?_
  refine lv_aload_n C.1 C.2.1 dL_law_623 rfl (lv_at hl 3 rfl) ?_
  obtain ⟨r1, hr1, hf⟩ := ob hf
  refine kcim (kLW (As := [.ref (wAd w 0), .ref (wAd w 108)]) (rest := []) C K hl.1 hP hS (c_L_load w l C.2.2.2.2.2.2.2.2 hfl hr1) q752 q753 q0 q754 hd_L_load ⟨rfl, rfl⟩ ⟨Nat.le_of_ble_eq_true rfl, Nat.le_of_ble_eq_true rfl⟩ rfl rfl (Nat.le_of_ble_eq_true rfl) dL_law_624 ⟨hc1, hs1⟩) hS (fun H locs hP hS => ?_)
  refine lv_istore (lv' := [(5, .int r1.1), (0, .ref b), (1, .ref (wAd w 0)), (2, .ref (wAd w 90)), (3, .ref (wAd w 108)), (4, .int (nI (4 * j)))]) C.1 C.2.1 dL_law_627 hl (by decide) rfl (fun ls hl => ?_)
  refine lv_aload_n C.1 C.2.1 dL_law_629 rfl (lv_at hl 3 rfl) ?_
  obtain ⟨r2, hr2, hf⟩ := ob hf
  refine kci (kV (As := []) (rest := []) C hl.1 hP hS (c_X9_load w l C.2.2.2.2.2.2.2.2 (L := r1.2.2) hr2) (gV q1088 q1089 q1090 q10 q1091) hd_X9_load (lt_Model h0_Model) (ob_Model h0_Model w r1.2.2 _) rfl ⟨rfl, rfl⟩ ⟨Nat.le_of_ble_eq_true rfl, Nat.le_of_ble_eq_true rfl⟩ rfl rfl (Nat.le_of_ble_eq_true rfl) dL_law_630 ⟨hc1, hs1⟩) hS (fun H locs hP hS => ?_)
  refine lv_istore (lv' := [(6, .int r2.1), (5, .int r1.1), (0, .ref b), (1, .ref (wAd w 0)), (2, .ref (wAd w 90)), (3, .ref (wAd w 108)), (4, .int (nI (4 * j)))]) C.1 C.2.1 dL_law_633 hl (by decide) rfl (fun ls hl => ?_)
  refine lv_aload_n C.1 C.2.1 dL_law_635 rfl (lv_at hl 4 rfl) ?_
  obtain ⟨r3, hr3, hf⟩ := ob hf
  refine kci (kV (As := []) (rest := []) C hl.1 hP hS (c_X9_thrown w l C.2.2.2.2.2.2.2.2 (L := r1.2.2) hr3) (gV q948 q949 q950 q10 q951) hd_X9_thrown (lt_Model h0_Model) (ob_Model h0_Model w r1.2.2 _) rfl ⟨rfl, rfl⟩ ⟨Nat.le_of_ble_eq_true rfl, Nat.le_of_ble_eq_true rfl⟩ rfl rfl (Nat.le_of_ble_eq_true rfl) dL_law_636 ⟨hc1, hs1⟩) hS (fun H locs hP hS => ?_)
  refine lv_iload C.1 C.2.1 dL_law_639 (lv_at hl 1 rfl) ?_
  refine lv_icmp_eq (tgt := 646) C.1 C.2.1 dL_law_641 (by decide) (fun c4 => ?_) (fun c4 => ?_)
  · have hf := (if_pos c4).symm.trans hf
    refine lv_iload C.1 C.2.1 dL_law_646 (lv_at hl 1 rfl) ?_
    refine lv_if_ne (tgt := 663) C.1 C.2.1 dL_law_648 (by decide) (fun c5 => ?_) (fun c5 => ?_)
    · have hf := (if_neg c5).symm.trans hf
      refine lv_goto (tgt := 1385) C.1 C.2.1 dL_law_663 (by decide) ?_
      cases hf
      exact hgo _ _ _ hP hS (lv_sub hl [2, 3, 4, 5, 6] rfl)
    · have hf := (if_pos c5).symm.trans hf
      refine lv_aload_n C.1 C.2.1 dL_law_651 rfl (lv_at hl 5 rfl) ?_
      refine lv_iconst (v := 0) C.1 C.2.1 dL_law_652 (by decide) ?_
      refine k_lald C hP dL_law_653 ?_
      refine lv_iload C.1 C.2.1 dL_law_654 (lv_at hl 0 rfl) ?_
      refine lv_i2l (v := (Int32.toInt64 r2.1)) C.1 C.2.1 dL_law_656 rfl ?_
      refine W.lcmp C.1 C.2.1 dL_law_657 ?_
      refine lv_if_eq (tgt := 663) C.1 C.2.1 dL_law_658 (by decide) (fun c6 => ?_) (fun c6 => ?_)
      · have hf := (if_pos c6).symm.trans hf
        refine lv_goto (tgt := 1385) C.1 C.2.1 dL_law_663 (by decide) ?_
        cases hf
        exact hgo _ _ _ hP hS (lv_sub hl [2, 3, 4, 5, 6] rfl)
      · have hf := (if_neg c6).symm.trans hf
        refine lv_iconst (v := 0) C.1 C.2.1 dL_law_661 (by decide) ?_
        cases hf
  · have hf := (if_neg c4).symm.trans hf
    refine lv_iconst (v := 0) C.1 C.2.1 dL_law_644 (by decide) ?_
    cases hf
set_option maxHeartbeats 4000000 in
set_option maxRecDepth 100000 in
theorem w_lc10 {w : WT} {p : Program} {l : Launch} {e : Env} {s : State} {m : MethodId} {args : Array Value} {below : List Frame} {meth : Method} {c : Code} {cells slots : Nat} {Q : State → Prop} (C : KC w p s m args meth c cL_law 9 RL (some .boolean)) (hfl : l.stackTraces = false) {b Ln j : Nat} {xs : Nat → Int32} (K : KW w s b Ln xs) (hj : 4 * j + 4 ≤ Ln) {a1 a2 a3 : Int32} (e1 : xs (4 * j + 1) = a1) (e2 : xs (4 * j + 2) = a2) (e3 : xs (4 * j + 3) = a3) (hc1 : cells + 1 ≤ room_1.cells) (hs1 : slots + 6 ≤ room_1.slots) {M : Mem} {L : Lng} {out : Mem × Lng} (hf : f_lc10 a1 a2 a3 M L = some (.inl out))
    (hgo : ∀ (H : Heap) (locs : List Loc) (ls : Array Slot), va_P (wD w) vwCl (pic w out.1 out.2) H → va_S (wA w) s.heap H locs → lv_has ls 9 [(0, .ref b), (1, .ref (wAd w 0)), (2, .ref (wAd w 90)), (3, .ref (wAd w 108)), (4, .int (nI (4 * j)))] → W p l e room_1 s m args below meth c H locs (cells + 1) (slots + 6) Q (F0 m 1385 ls []))
    (H : Heap) (locs : List Loc) (ls : Array Slot) (hP : va_P (wD w) vwCl (pic w M L) H) (hS : va_S (wA w) s.heap H locs) (hl : lv_has ls 9 [(0, .ref b), (1, .ref (wAd w 0)), (2, .ref (wAd w 90)), (3, .ref (wAd w 108)), (4, .int (nI (4 * j)))]) : W p l e room_1 s m args below meth c H locs cells slots Q (F0 m 666 ls []) := by
  unfold f_lc10 at hf
  refine lv_aload_n C.1 C.2.1 dL_law_666 rfl (lv_at hl 1 rfl) ?_
  refine lv_aload_n C.1 C.2.1 dL_law_667 rfl (lv_at hl 3 rfl) ?_
  obtain ⟨r1, hr1, hf⟩ := ob hf
  refine kcim (kLW (As := [.ref (wAd w 0), .ref (wAd w 108)]) (rest := []) C K hl.1 hP hS (c_L_undo w l C.2.2.2.2.2.2.2.2 hfl hr1) q769 q770 q0 q771 hd_L_undo ⟨rfl, rfl⟩ ⟨Nat.le_of_ble_eq_true rfl, Nat.le_of_ble_eq_true rfl⟩ rfl rfl (Nat.le_of_ble_eq_true rfl) dL_law_668 ⟨hc1, hs1⟩) hS (fun H locs hP hS => ?_)
  refine lv_istore (lv' := [(5, .int r1.1), (0, .ref b), (1, .ref (wAd w 0)), (2, .ref (wAd w 90)), (3, .ref (wAd w 108)), (4, .int (nI (4 * j)))]) C.1 C.2.1 dL_law_671 hl (by decide) rfl (fun ls hl => ?_)
  refine lv_aload_n C.1 C.2.1 dL_law_673 rfl (lv_at hl 3 rfl) ?_
  obtain ⟨r2, hr2, hf⟩ := ob hf
  refine kci (kV (As := []) (rest := []) C hl.1 hP hS (c_X9_undo w l C.2.2.2.2.2.2.2.2 (L := r1.2.2) hr2) (gV q952 q953 q954 q10 q955) hd_X9_undo (lt_Model h0_Model) (ob_Model h0_Model w r1.2.2 _) rfl ⟨rfl, rfl⟩ ⟨Nat.le_of_ble_eq_true rfl, Nat.le_of_ble_eq_true rfl⟩ rfl rfl (Nat.le_of_ble_eq_true rfl) dL_law_674 ⟨hc1, hs1⟩) hS (fun H locs hP hS => ?_)
  refine lv_istore (lv' := [(6, .int r2.1), (5, .int r1.1), (0, .ref b), (1, .ref (wAd w 0)), (2, .ref (wAd w 90)), (3, .ref (wAd w 108)), (4, .int (nI (4 * j)))]) C.1 C.2.1 dL_law_677 hl (by decide) rfl (fun ls hl => ?_)
  refine lv_aload_n C.1 C.2.1 dL_law_679 rfl (lv_at hl 4 rfl) ?_
  obtain ⟨r3, hr3, hf⟩ := ob hf
  refine kci (kV (As := []) (rest := []) C hl.1 hP hS (c_X9_thrown w l C.2.2.2.2.2.2.2.2 (L := r1.2.2) hr3) (gV q948 q949 q950 q10 q951) hd_X9_thrown (lt_Model h0_Model) (ob_Model h0_Model w r1.2.2 _) rfl ⟨rfl, rfl⟩ ⟨Nat.le_of_ble_eq_true rfl, Nat.le_of_ble_eq_true rfl⟩ rfl rfl (Nat.le_of_ble_eq_true rfl) dL_law_680 ⟨hc1, hs1⟩) hS (fun H locs hP hS => ?_)
  refine lv_iload C.1 C.2.1 dL_law_683 (lv_at hl 1 rfl) ?_
  refine lv_icmp_eq (tgt := 690) C.1 C.2.1 dL_law_685 (by decide) (fun c4 => ?_) (fun c4 => ?_)
  · have hf := (if_pos c4).symm.trans hf
    refine lv_iload C.1 C.2.1 dL_law_690 (lv_at hl 1 rfl) ?_
    refine lv_if_ne (tgt := 707) C.1 C.2.1 dL_law_692 (by decide) (fun c5 => ?_) (fun c5 => ?_)
    · have hf := (if_neg c5).symm.trans hf
      refine lv_goto (tgt := 1385) C.1 C.2.1 dL_law_707 (by decide) ?_
      cases hf
      exact hgo _ _ _ hP hS (lv_sub hl [2, 3, 4, 5, 6] rfl)
    · have hf := (if_pos c5).symm.trans hf
      refine lv_aload_n C.1 C.2.1 dL_law_695 rfl (lv_at hl 5 rfl) ?_
      refine lv_iconst (v := 0) C.1 C.2.1 dL_law_696 (by decide) ?_
      refine k_lald C hP dL_law_697 ?_
      refine lv_iload C.1 C.2.1 dL_law_698 (lv_at hl 0 rfl) ?_
      refine lv_i2l (v := (Int32.toInt64 r2.1)) C.1 C.2.1 dL_law_700 rfl ?_
      refine W.lcmp C.1 C.2.1 dL_law_701 ?_
      refine lv_if_eq (tgt := 707) C.1 C.2.1 dL_law_702 (by decide) (fun c6 => ?_) (fun c6 => ?_)
      · have hf := (if_pos c6).symm.trans hf
        refine lv_goto (tgt := 1385) C.1 C.2.1 dL_law_707 (by decide) ?_
        cases hf
        exact hgo _ _ _ hP hS (lv_sub hl [2, 3, 4, 5, 6] rfl)
      · have hf := (if_neg c6).symm.trans hf
        refine lv_iconst (v := 0) C.1 C.2.1 dL_law_705 (by decide) ?_
        cases hf
  · have hf := (if_neg c4).symm.trans hf
    refine lv_iconst (v := 0) C.1 C.2.1 dL_law_688 (by decide) ?_
    cases hf
set_option maxHeartbeats 4000000 in
set_option maxRecDepth 100000 in
theorem w_lc11 {w : WT} {p : Program} {l : Launch} {e : Env} {s : State} {m : MethodId} {args : Array Value} {below : List Frame} {meth : Method} {c : Code} {cells slots : Nat} {Q : State → Prop} (C : KC w p s m args meth c cL_law 9 RL (some .boolean)) (hfl : l.stackTraces = false) {b Ln j : Nat} {xs : Nat → Int32} (K : KW w s b Ln xs) (hj : 4 * j + 4 ≤ Ln) {a1 a2 a3 : Int32} (e1 : xs (4 * j + 1) = a1) (e2 : xs (4 * j + 2) = a2) (e3 : xs (4 * j + 3) = a3) (hc1 : cells + 1 ≤ room_1.cells) (hs1 : slots + 6 ≤ room_1.slots) {M : Mem} {L : Lng} {out : Mem × Lng} (hf : f_lc11 a1 a2 a3 M L = some (.inl out))
    (hgo : ∀ (H : Heap) (locs : List Loc) (ls : Array Slot), va_P (wD w) vwCl (pic w out.1 out.2) H → va_S (wA w) s.heap H locs → lv_has ls 9 [(0, .ref b), (1, .ref (wAd w 0)), (2, .ref (wAd w 90)), (3, .ref (wAd w 108)), (4, .int (nI (4 * j)))] → W p l e room_1 s m args below meth c H locs (cells + 1) (slots + 6) Q (F0 m 1385 ls []))
    (H : Heap) (locs : List Loc) (ls : Array Slot) (hP : va_P (wD w) vwCl (pic w M L) H) (hS : va_S (wA w) s.heap H locs) (hl : lv_has ls 9 [(0, .ref b), (1, .ref (wAd w 0)), (2, .ref (wAd w 90)), (3, .ref (wAd w 108)), (4, .int (nI (4 * j)))]) : W p l e room_1 s m args below meth c H locs cells slots Q (F0 m 710 ls []) := by
  unfold f_lc11 at hf
  refine lv_aload_n C.1 C.2.1 dL_law_710 rfl (lv_at hl 1 rfl) ?_
  refine lv_aload_n C.1 C.2.1 dL_law_711 rfl (lv_at hl 0 rfl) ?_
  refine lv_iload C.1 C.2.1 dL_law_712 (lv_at hl 4 rfl) ?_
  refine lv_iconst (v := 1) C.1 C.2.1 dL_law_714 (by decide) ?_
  refine lv_iadd C.1 C.2.1 dL_law_715 ?_
  refine k_sld C K hS (4 * j + 1) (by omega) (nI_k1 j) e1 dL_law_716 ?_
  refine lv_aload_n C.1 C.2.1 dL_law_717 rfl (lv_at hl 0 rfl) ?_
  refine lv_iload C.1 C.2.1 dL_law_718 (lv_at hl 4 rfl) ?_
  refine lv_iconst (v := 2) C.1 C.2.1 dL_law_720 (by decide) ?_
  refine lv_iadd C.1 C.2.1 dL_law_721 ?_
  refine k_sld C K hS (4 * j + 2) (by omega) (nI_k2 j) e2 dL_law_722 ?_
  refine lv_aload_n C.1 C.2.1 dL_law_723 rfl (lv_at hl 3 rfl) ?_
  obtain ⟨r1, hr1, hf⟩ := ob hf
  refine kcim (kLW (As := [.ref (wAd w 0), .int a1, .int a2, .ref (wAd w 108)]) (rest := []) C K hl.1 hP hS (c_L_minute w l C.2.2.2.2.2.2.2.2 hfl hr1) q781 q782 q0 q783 hd_L_minute ⟨rfl, rfl⟩ ⟨Nat.le_of_ble_eq_true rfl, Nat.le_of_ble_eq_true rfl⟩ rfl rfl (Nat.le_of_ble_eq_true rfl) dL_law_724 ⟨hc1, hs1⟩) hS (fun H locs hP hS => ?_)
  refine lv_istore (lv' := [(5, .int r1.1), (0, .ref b), (1, .ref (wAd w 0)), (2, .ref (wAd w 90)), (3, .ref (wAd w 108)), (4, .int (nI (4 * j)))]) C.1 C.2.1 dL_law_727 hl (by decide) rfl (fun ls hl => ?_)
  refine lv_aload_n C.1 C.2.1 dL_law_729 rfl (lv_at hl 3 rfl) ?_
  refine lv_aload_n C.1 C.2.1 dL_law_730 rfl (lv_at hl 1 rfl) ?_
  refine lv_iload C.1 C.2.1 dL_law_731 (lv_at hl 5 rfl) ?_
  refine lv_iconst (v := 1) C.1 C.2.1 dL_law_733 (by decide) ?_
  refine lv_iadd C.1 C.2.1 dL_law_734 ?_
  refine k_sld C K hS (4 * j + 1) (by omega) (nI_k1 j) e1 dL_law_735 ?_
  refine lv_aload_n C.1 C.2.1 dL_law_736 rfl (lv_at hl 1 rfl) ?_
  refine lv_iload C.1 C.2.1 dL_law_737 (lv_at hl 5 rfl) ?_
  refine lv_iconst (v := 2) C.1 C.2.1 dL_law_739 (by decide) ?_
  refine lv_iadd C.1 C.2.1 dL_law_740 ?_
  refine k_sld C K hS (4 * j + 2) (by omega) (nI_k2 j) e2 dL_law_741 ?_
  obtain ⟨r2, hr2, hf⟩ := ob hf
  refine kci (kV (As := [.int a1, .int a2]) (rest := []) C hl.1 hP hS (c_X9_minute w l C.2.2.2.2.2.2.2.2 (L := r1.2.2) hr2) (gV q1092 q1093 q1094 q10 q1095) hd_X9_minute (lt_Model h0_Model) (ob_Model h0_Model w r1.2.2 _) rfl ⟨rfl, rfl⟩ ⟨Nat.le_of_ble_eq_true rfl, Nat.le_of_ble_eq_true rfl⟩ rfl rfl (Nat.le_of_ble_eq_true rfl) dL_law_742 ⟨hc1, hs1⟩) hS (fun H locs hP hS => ?_)
  refine lv_istore (lv' := [(6, .int r2.1), (5, .int r1.1), (0, .ref b), (1, .ref (wAd w 0)), (2, .ref (wAd w 90)), (3, .ref (wAd w 108)), (4, .int (nI (4 * j)))]) C.1 C.2.1 dL_law_745 hl (by decide) rfl (fun ls hl => ?_)
  refine lv_aload_n C.1 C.2.1 dL_law_747 rfl (lv_at hl 4 rfl) ?_
  obtain ⟨r3, hr3, hf⟩ := ob hf
  refine kci (kV (As := []) (rest := []) C hl.1 hP hS (c_X9_thrown w l C.2.2.2.2.2.2.2.2 (L := r1.2.2) hr3) (gV q948 q949 q950 q10 q951) hd_X9_thrown (lt_Model h0_Model) (ob_Model h0_Model w r1.2.2 _) rfl ⟨rfl, rfl⟩ ⟨Nat.le_of_ble_eq_true rfl, Nat.le_of_ble_eq_true rfl⟩ rfl rfl (Nat.le_of_ble_eq_true rfl) dL_law_748 ⟨hc1, hs1⟩) hS (fun H locs hP hS => ?_)
  refine lv_iload C.1 C.2.1 dL_law_751 (lv_at hl 1 rfl) ?_
  refine lv_icmp_eq (tgt := 758) C.1 C.2.1 dL_law_753 (by decide) (fun c4 => ?_) (fun c4 => ?_)
  · have hf := (if_pos c4).symm.trans hf
    refine lv_iload C.1 C.2.1 dL_law_758 (lv_at hl 1 rfl) ?_
    refine lv_if_ne (tgt := 775) C.1 C.2.1 dL_law_760 (by decide) (fun c5 => ?_) (fun c5 => ?_)
    · have hf := (if_neg c5).symm.trans hf
      refine lv_goto (tgt := 1385) C.1 C.2.1 dL_law_775 (by decide) ?_
      cases hf
      exact hgo _ _ _ hP hS (lv_sub hl [2, 3, 4, 5, 6] rfl)
    · have hf := (if_pos c5).symm.trans hf
      refine lv_aload_n C.1 C.2.1 dL_law_763 rfl (lv_at hl 5 rfl) ?_
      refine lv_iconst (v := 0) C.1 C.2.1 dL_law_764 (by decide) ?_
      refine k_lald C hP dL_law_765 ?_
      refine lv_iload C.1 C.2.1 dL_law_766 (lv_at hl 0 rfl) ?_
      refine lv_i2l (v := (Int32.toInt64 r2.1)) C.1 C.2.1 dL_law_768 rfl ?_
      refine W.lcmp C.1 C.2.1 dL_law_769 ?_
      refine lv_if_eq (tgt := 775) C.1 C.2.1 dL_law_770 (by decide) (fun c6 => ?_) (fun c6 => ?_)
      · have hf := (if_pos c6).symm.trans hf
        refine lv_goto (tgt := 1385) C.1 C.2.1 dL_law_775 (by decide) ?_
        cases hf
        exact hgo _ _ _ hP hS (lv_sub hl [2, 3, 4, 5, 6] rfl)
      · have hf := (if_neg c6).symm.trans hf
        refine lv_iconst (v := 0) C.1 C.2.1 dL_law_773 (by decide) ?_
        cases hf
  · have hf := (if_neg c4).symm.trans hf
    refine lv_iconst (v := 0) C.1 C.2.1 dL_law_756 (by decide) ?_
    cases hf
set_option maxHeartbeats 4000000 in
set_option maxRecDepth 100000 in
theorem w_lc12 {w : WT} {p : Program} {l : Launch} {e : Env} {s : State} {m : MethodId} {args : Array Value} {below : List Frame} {meth : Method} {c : Code} {cells slots : Nat} {Q : State → Prop} (C : KC w p s m args meth c cL_law 9 RL (some .boolean)) (hfl : l.stackTraces = false) {b Ln j : Nat} {xs : Nat → Int32} (K : KW w s b Ln xs) (hj : 4 * j + 4 ≤ Ln) {a1 a2 a3 : Int32} (e1 : xs (4 * j + 1) = a1) (e2 : xs (4 * j + 2) = a2) (e3 : xs (4 * j + 3) = a3) (hc1 : cells + 1 ≤ room_1.cells) (hs1 : slots + 6 ≤ room_1.slots) {M : Mem} {L : Lng} {out : Mem × Lng} (hf : f_lc12 a1 a2 a3 M L = some (.inl out))
    (hgo : ∀ (H : Heap) (locs : List Loc) (ls : Array Slot), va_P (wD w) vwCl (pic w out.1 out.2) H → va_S (wA w) s.heap H locs → lv_has ls 9 [(0, .ref b), (1, .ref (wAd w 0)), (2, .ref (wAd w 90)), (3, .ref (wAd w 108)), (4, .int (nI (4 * j)))] → W p l e room_1 s m args below meth c H locs (cells + 1) (slots + 6) Q (F0 m 1385 ls []))
    (H : Heap) (locs : List Loc) (ls : Array Slot) (hP : va_P (wD w) vwCl (pic w M L) H) (hS : va_S (wA w) s.heap H locs) (hl : lv_has ls 9 [(0, .ref b), (1, .ref (wAd w 0)), (2, .ref (wAd w 90)), (3, .ref (wAd w 108)), (4, .int (nI (4 * j)))]) : W p l e room_1 s m args below meth c H locs cells slots Q (F0 m 778 ls []) := by
  unfold f_lc12 at hf
  refine lv_aload_n C.1 C.2.1 dL_law_778 rfl (lv_at hl 1 rfl) ?_
  refine lv_aload_n C.1 C.2.1 dL_law_779 rfl (lv_at hl 0 rfl) ?_
  refine lv_iload C.1 C.2.1 dL_law_780 (lv_at hl 4 rfl) ?_
  refine lv_iconst (v := 1) C.1 C.2.1 dL_law_782 (by decide) ?_
  refine lv_iadd C.1 C.2.1 dL_law_783 ?_
  refine k_sld C K hS (4 * j + 1) (by omega) (nI_k1 j) e1 dL_law_784 ?_
  refine lv_aload_n C.1 C.2.1 dL_law_785 rfl (lv_at hl 0 rfl) ?_
  refine lv_iload C.1 C.2.1 dL_law_786 (lv_at hl 4 rfl) ?_
  refine lv_iconst (v := 2) C.1 C.2.1 dL_law_788 (by decide) ?_
  refine lv_iadd C.1 C.2.1 dL_law_789 ?_
  refine k_sld C K hS (4 * j + 2) (by omega) (nI_k2 j) e2 dL_law_790 ?_
  refine lv_aload_n C.1 C.2.1 dL_law_791 rfl (lv_at hl 3 rfl) ?_
  obtain ⟨r1, hr1, hf⟩ := ob hf
  refine kcim (kLW (As := [.ref (wAd w 0), .int a1, .int a2, .ref (wAd w 108)]) (rest := []) C K hl.1 hP hS (c_L_exceedance w l C.2.2.2.2.2.2.2.2 hfl hr1) q789 q790 q0 q791 hd_L_exceedance ⟨rfl, rfl⟩ ⟨Nat.le_of_ble_eq_true rfl, Nat.le_of_ble_eq_true rfl⟩ rfl rfl (Nat.le_of_ble_eq_true rfl) dL_law_792 ⟨hc1, hs1⟩) hS (fun H locs hP hS => ?_)
  refine lv_istore (lv' := [(5, .int r1.1), (0, .ref b), (1, .ref (wAd w 0)), (2, .ref (wAd w 90)), (3, .ref (wAd w 108)), (4, .int (nI (4 * j)))]) C.1 C.2.1 dL_law_795 hl (by decide) rfl (fun ls hl => ?_)
  refine lv_aload_n C.1 C.2.1 dL_law_797 rfl (lv_at hl 3 rfl) ?_
  refine lv_aload_n C.1 C.2.1 dL_law_798 rfl (lv_at hl 1 rfl) ?_
  refine lv_iload C.1 C.2.1 dL_law_799 (lv_at hl 5 rfl) ?_
  refine lv_iconst (v := 1) C.1 C.2.1 dL_law_801 (by decide) ?_
  refine lv_iadd C.1 C.2.1 dL_law_802 ?_
  refine k_sld C K hS (4 * j + 1) (by omega) (nI_k1 j) e1 dL_law_803 ?_
  refine lv_aload_n C.1 C.2.1 dL_law_804 rfl (lv_at hl 1 rfl) ?_
  refine lv_iload C.1 C.2.1 dL_law_805 (lv_at hl 5 rfl) ?_
  refine lv_iconst (v := 2) C.1 C.2.1 dL_law_807 (by decide) ?_
  refine lv_iadd C.1 C.2.1 dL_law_808 ?_
  refine k_sld C K hS (4 * j + 2) (by omega) (nI_k2 j) e2 dL_law_809 ?_
  obtain ⟨r2, hr2, hf⟩ := ob hf
  refine kci (kV (As := [.int a1, .int a2]) (rest := []) C hl.1 hP hS (c_X9_exceedance w l C.2.2.2.2.2.2.2.2 (L := r1.2.2) hr2) (gV q1100 q1101 q1102 q10 q1103) hd_X9_exceedance (lt_Model h0_Model) (ob_Model h0_Model w r1.2.2 _) rfl ⟨rfl, rfl⟩ ⟨Nat.le_of_ble_eq_true rfl, Nat.le_of_ble_eq_true rfl⟩ rfl rfl (Nat.le_of_ble_eq_true rfl) dL_law_810 ⟨hc1, hs1⟩) hS (fun H locs hP hS => ?_)
  refine lv_istore (lv' := [(6, .int r2.1), (5, .int r1.1), (0, .ref b), (1, .ref (wAd w 0)), (2, .ref (wAd w 90)), (3, .ref (wAd w 108)), (4, .int (nI (4 * j)))]) C.1 C.2.1 dL_law_813 hl (by decide) rfl (fun ls hl => ?_)
  refine lv_aload_n C.1 C.2.1 dL_law_815 rfl (lv_at hl 4 rfl) ?_
  obtain ⟨r3, hr3, hf⟩ := ob hf
  refine kci (kV (As := []) (rest := []) C hl.1 hP hS (c_X9_thrown w l C.2.2.2.2.2.2.2.2 (L := r1.2.2) hr3) (gV q948 q949 q950 q10 q951) hd_X9_thrown (lt_Model h0_Model) (ob_Model h0_Model w r1.2.2 _) rfl ⟨rfl, rfl⟩ ⟨Nat.le_of_ble_eq_true rfl, Nat.le_of_ble_eq_true rfl⟩ rfl rfl (Nat.le_of_ble_eq_true rfl) dL_law_816 ⟨hc1, hs1⟩) hS (fun H locs hP hS => ?_)
  refine lv_iload C.1 C.2.1 dL_law_819 (lv_at hl 1 rfl) ?_
  refine lv_icmp_eq (tgt := 826) C.1 C.2.1 dL_law_821 (by decide) (fun c4 => ?_) (fun c4 => ?_)
  · have hf := (if_pos c4).symm.trans hf
    refine lv_iload C.1 C.2.1 dL_law_826 (lv_at hl 1 rfl) ?_
    refine lv_if_ne (tgt := 843) C.1 C.2.1 dL_law_828 (by decide) (fun c5 => ?_) (fun c5 => ?_)
    · have hf := (if_neg c5).symm.trans hf
      refine lv_goto (tgt := 1385) C.1 C.2.1 dL_law_843 (by decide) ?_
      cases hf
      exact hgo _ _ _ hP hS (lv_sub hl [2, 3, 4, 5, 6] rfl)
    · have hf := (if_pos c5).symm.trans hf
      refine lv_aload_n C.1 C.2.1 dL_law_831 rfl (lv_at hl 5 rfl) ?_
      refine lv_iconst (v := 0) C.1 C.2.1 dL_law_832 (by decide) ?_
      refine k_lald C hP dL_law_833 ?_
      refine lv_iload C.1 C.2.1 dL_law_834 (lv_at hl 0 rfl) ?_
      refine lv_i2l (v := (Int32.toInt64 r2.1)) C.1 C.2.1 dL_law_836 rfl ?_
      refine W.lcmp C.1 C.2.1 dL_law_837 ?_
      refine lv_if_eq (tgt := 843) C.1 C.2.1 dL_law_838 (by decide) (fun c6 => ?_) (fun c6 => ?_)
      · have hf := (if_pos c6).symm.trans hf
        refine lv_goto (tgt := 1385) C.1 C.2.1 dL_law_843 (by decide) ?_
        cases hf
        exact hgo _ _ _ hP hS (lv_sub hl [2, 3, 4, 5, 6] rfl)
      · have hf := (if_neg c6).symm.trans hf
        refine lv_iconst (v := 0) C.1 C.2.1 dL_law_841 (by decide) ?_
        cases hf
  · have hf := (if_neg c4).symm.trans hf
    refine lv_iconst (v := 0) C.1 C.2.1 dL_law_824 (by decide) ?_
    cases hf
set_option maxHeartbeats 4000000 in
set_option maxRecDepth 100000 in
theorem w_lc13 {w : WT} {p : Program} {l : Launch} {e : Env} {s : State} {m : MethodId} {args : Array Value} {below : List Frame} {meth : Method} {c : Code} {cells slots : Nat} {Q : State → Prop} (C : KC w p s m args meth c cL_law 9 RL (some .boolean)) (hfl : l.stackTraces = false) {b Ln j : Nat} {xs : Nat → Int32} (K : KW w s b Ln xs) (hj : 4 * j + 4 ≤ Ln) {a1 a2 a3 : Int32} (e1 : xs (4 * j + 1) = a1) (e2 : xs (4 * j + 2) = a2) (e3 : xs (4 * j + 3) = a3) (hc1 : cells + 1 ≤ room_1.cells) (hs1 : slots + 6 ≤ room_1.slots) {M : Mem} {L : Lng} {out : Mem × Lng} (hf : f_lc13 a1 a2 a3 M L = some (.inl out))
    (hgo : ∀ (H : Heap) (locs : List Loc) (ls : Array Slot), va_P (wD w) vwCl (pic w out.1 out.2) H → va_S (wA w) s.heap H locs → lv_has ls 9 [(0, .ref b), (1, .ref (wAd w 0)), (2, .ref (wAd w 90)), (3, .ref (wAd w 108)), (4, .int (nI (4 * j)))] → W p l e room_1 s m args below meth c H locs (cells + 1) (slots + 6) Q (F0 m 1385 ls []))
    (H : Heap) (locs : List Loc) (ls : Array Slot) (hP : va_P (wD w) vwCl (pic w M L) H) (hS : va_S (wA w) s.heap H locs) (hl : lv_has ls 9 [(0, .ref b), (1, .ref (wAd w 0)), (2, .ref (wAd w 90)), (3, .ref (wAd w 108)), (4, .int (nI (4 * j)))]) : W p l e room_1 s m args below meth c H locs cells slots Q (F0 m 846 ls []) := by
  unfold f_lc13 at hf
  refine lv_aload_n C.1 C.2.1 dL_law_846 rfl (lv_at hl 1 rfl) ?_
  refine lv_aload_n C.1 C.2.1 dL_law_847 rfl (lv_at hl 0 rfl) ?_
  refine lv_iload C.1 C.2.1 dL_law_848 (lv_at hl 4 rfl) ?_
  refine lv_iconst (v := 1) C.1 C.2.1 dL_law_850 (by decide) ?_
  refine lv_iadd C.1 C.2.1 dL_law_851 ?_
  refine k_sld C K hS (4 * j + 1) (by omega) (nI_k1 j) e1 dL_law_852 ?_
  refine lv_aload_n C.1 C.2.1 dL_law_853 rfl (lv_at hl 0 rfl) ?_
  refine lv_iload C.1 C.2.1 dL_law_854 (lv_at hl 4 rfl) ?_
  refine lv_iconst (v := 2) C.1 C.2.1 dL_law_856 (by decide) ?_
  refine lv_iadd C.1 C.2.1 dL_law_857 ?_
  refine k_sld C K hS (4 * j + 2) (by omega) (nI_k2 j) e2 dL_law_858 ?_
  refine lv_aload_n C.1 C.2.1 dL_law_859 rfl (lv_at hl 3 rfl) ?_
  obtain ⟨r1, hr1, hf⟩ := ob hf
  refine kcim (kLW (As := [.ref (wAd w 0), .int a1, .int a2, .ref (wAd w 108)]) (rest := []) C K hl.1 hP hS (c_L_complaint w l C.2.2.2.2.2.2.2.2 hfl hr1) q797 q798 q0 q799 hd_L_complaint ⟨rfl, rfl⟩ ⟨Nat.le_of_ble_eq_true rfl, Nat.le_of_ble_eq_true rfl⟩ rfl rfl (Nat.le_of_ble_eq_true rfl) dL_law_860 ⟨hc1, hs1⟩) hS (fun H locs hP hS => ?_)
  refine lv_istore (lv' := [(5, .int r1.1), (0, .ref b), (1, .ref (wAd w 0)), (2, .ref (wAd w 90)), (3, .ref (wAd w 108)), (4, .int (nI (4 * j)))]) C.1 C.2.1 dL_law_863 hl (by decide) rfl (fun ls hl => ?_)
  refine lv_aload_n C.1 C.2.1 dL_law_865 rfl (lv_at hl 3 rfl) ?_
  refine lv_aload_n C.1 C.2.1 dL_law_866 rfl (lv_at hl 1 rfl) ?_
  refine lv_iload C.1 C.2.1 dL_law_867 (lv_at hl 5 rfl) ?_
  refine lv_iconst (v := 1) C.1 C.2.1 dL_law_869 (by decide) ?_
  refine lv_iadd C.1 C.2.1 dL_law_870 ?_
  refine k_sld C K hS (4 * j + 1) (by omega) (nI_k1 j) e1 dL_law_871 ?_
  refine lv_aload_n C.1 C.2.1 dL_law_872 rfl (lv_at hl 1 rfl) ?_
  refine lv_iload C.1 C.2.1 dL_law_873 (lv_at hl 5 rfl) ?_
  refine lv_iconst (v := 2) C.1 C.2.1 dL_law_875 (by decide) ?_
  refine lv_iadd C.1 C.2.1 dL_law_876 ?_
  refine k_sld C K hS (4 * j + 2) (by omega) (nI_k2 j) e2 dL_law_877 ?_
  obtain ⟨r2, hr2, hf⟩ := ob hf
  refine kci (kV (As := [.int a1, .int a2]) (rest := []) C hl.1 hP hS (c_X9_complaint w l C.2.2.2.2.2.2.2.2 (L := r1.2.2) hr2) (gV q1108 q1109 q1110 q10 q1111) hd_X9_complaint (lt_Model h0_Model) (ob_Model h0_Model w r1.2.2 _) rfl ⟨rfl, rfl⟩ ⟨Nat.le_of_ble_eq_true rfl, Nat.le_of_ble_eq_true rfl⟩ rfl rfl (Nat.le_of_ble_eq_true rfl) dL_law_878 ⟨hc1, hs1⟩) hS (fun H locs hP hS => ?_)
  refine lv_istore (lv' := [(6, .int r2.1), (5, .int r1.1), (0, .ref b), (1, .ref (wAd w 0)), (2, .ref (wAd w 90)), (3, .ref (wAd w 108)), (4, .int (nI (4 * j)))]) C.1 C.2.1 dL_law_881 hl (by decide) rfl (fun ls hl => ?_)
  refine lv_aload_n C.1 C.2.1 dL_law_883 rfl (lv_at hl 4 rfl) ?_
  obtain ⟨r3, hr3, hf⟩ := ob hf
  refine kci (kV (As := []) (rest := []) C hl.1 hP hS (c_X9_thrown w l C.2.2.2.2.2.2.2.2 (L := r1.2.2) hr3) (gV q948 q949 q950 q10 q951) hd_X9_thrown (lt_Model h0_Model) (ob_Model h0_Model w r1.2.2 _) rfl ⟨rfl, rfl⟩ ⟨Nat.le_of_ble_eq_true rfl, Nat.le_of_ble_eq_true rfl⟩ rfl rfl (Nat.le_of_ble_eq_true rfl) dL_law_884 ⟨hc1, hs1⟩) hS (fun H locs hP hS => ?_)
  refine lv_iload C.1 C.2.1 dL_law_887 (lv_at hl 1 rfl) ?_
  refine lv_icmp_eq (tgt := 894) C.1 C.2.1 dL_law_889 (by decide) (fun c4 => ?_) (fun c4 => ?_)
  · have hf := (if_pos c4).symm.trans hf
    refine lv_iload C.1 C.2.1 dL_law_894 (lv_at hl 1 rfl) ?_
    refine lv_if_ne (tgt := 911) C.1 C.2.1 dL_law_896 (by decide) (fun c5 => ?_) (fun c5 => ?_)
    · have hf := (if_neg c5).symm.trans hf
      refine lv_goto (tgt := 1385) C.1 C.2.1 dL_law_911 (by decide) ?_
      cases hf
      exact hgo _ _ _ hP hS (lv_sub hl [2, 3, 4, 5, 6] rfl)
    · have hf := (if_pos c5).symm.trans hf
      refine lv_aload_n C.1 C.2.1 dL_law_899 rfl (lv_at hl 5 rfl) ?_
      refine lv_iconst (v := 0) C.1 C.2.1 dL_law_900 (by decide) ?_
      refine k_lald C hP dL_law_901 ?_
      refine lv_iload C.1 C.2.1 dL_law_902 (lv_at hl 0 rfl) ?_
      refine lv_i2l (v := (Int32.toInt64 r2.1)) C.1 C.2.1 dL_law_904 rfl ?_
      refine W.lcmp C.1 C.2.1 dL_law_905 ?_
      refine lv_if_eq (tgt := 911) C.1 C.2.1 dL_law_906 (by decide) (fun c6 => ?_) (fun c6 => ?_)
      · have hf := (if_pos c6).symm.trans hf
        refine lv_goto (tgt := 1385) C.1 C.2.1 dL_law_911 (by decide) ?_
        cases hf
        exact hgo _ _ _ hP hS (lv_sub hl [2, 3, 4, 5, 6] rfl)
      · have hf := (if_neg c6).symm.trans hf
        refine lv_iconst (v := 0) C.1 C.2.1 dL_law_909 (by decide) ?_
        cases hf
  · have hf := (if_neg c4).symm.trans hf
    refine lv_iconst (v := 0) C.1 C.2.1 dL_law_892 (by decide) ?_
    cases hf
set_option maxHeartbeats 4000000 in
set_option maxRecDepth 100000 in
theorem w_lc14 {w : WT} {p : Program} {l : Launch} {e : Env} {s : State} {m : MethodId} {args : Array Value} {below : List Frame} {meth : Method} {c : Code} {cells slots : Nat} {Q : State → Prop} (C : KC w p s m args meth c cL_law 9 RL (some .boolean)) (hfl : l.stackTraces = false) {b Ln j : Nat} {xs : Nat → Int32} (K : KW w s b Ln xs) (hj : 4 * j + 4 ≤ Ln) {a1 a2 a3 : Int32} (e1 : xs (4 * j + 1) = a1) (e2 : xs (4 * j + 2) = a2) (e3 : xs (4 * j + 3) = a3) (hc1 : cells + 1 ≤ room_1.cells) (hs1 : slots + 6 ≤ room_1.slots) {M : Mem} {L : Lng} {out : Mem × Lng} (hf : f_lc14 a1 a2 a3 M L = some (.inl out))
    (hgo : ∀ (H : Heap) (locs : List Loc) (ls : Array Slot), va_P (wD w) vwCl (pic w out.1 out.2) H → va_S (wA w) s.heap H locs → lv_has ls 9 [(0, .ref b), (1, .ref (wAd w 0)), (2, .ref (wAd w 90)), (3, .ref (wAd w 108)), (4, .int (nI (4 * j)))] → W p l e room_1 s m args below meth c H locs (cells + 1) (slots + 6) Q (F0 m 1385 ls []))
    (H : Heap) (locs : List Loc) (ls : Array Slot) (hP : va_P (wD w) vwCl (pic w M L) H) (hS : va_S (wA w) s.heap H locs) (hl : lv_has ls 9 [(0, .ref b), (1, .ref (wAd w 0)), (2, .ref (wAd w 90)), (3, .ref (wAd w 108)), (4, .int (nI (4 * j)))]) : W p l e room_1 s m args below meth c H locs cells slots Q (F0 m 914 ls []) := by
  unfold f_lc14 at hf
  refine lv_aload_n C.1 C.2.1 dL_law_914 rfl (lv_at hl 1 rfl) ?_
  refine lv_aload_n C.1 C.2.1 dL_law_915 rfl (lv_at hl 0 rfl) ?_
  refine lv_iload C.1 C.2.1 dL_law_916 (lv_at hl 4 rfl) ?_
  refine lv_iconst (v := 1) C.1 C.2.1 dL_law_918 (by decide) ?_
  refine lv_iadd C.1 C.2.1 dL_law_919 ?_
  refine k_sld C K hS (4 * j + 1) (by omega) (nI_k1 j) e1 dL_law_920 ?_
  refine lv_aload_n C.1 C.2.1 dL_law_921 rfl (lv_at hl 3 rfl) ?_
  obtain ⟨r1, hr1, hf⟩ := ob hf
  refine kcim (kLW (As := [.ref (wAd w 0), .int a1, .ref (wAd w 108)]) (rest := []) C K hl.1 hP hS (c_L_levelCount w l C.2.2.2.2.2.2.2.2 hfl hr1) q804 q805 q0 q806 hd_L_levelCount ⟨rfl, rfl⟩ ⟨Nat.le_of_ble_eq_true rfl, Nat.le_of_ble_eq_true rfl⟩ rfl rfl (Nat.le_of_ble_eq_true rfl) dL_law_922 ⟨hc1, hs1⟩) hS (fun H locs hP hS => ?_)
  refine lv_istore (lv' := [(5, .int r1.1), (0, .ref b), (1, .ref (wAd w 0)), (2, .ref (wAd w 90)), (3, .ref (wAd w 108)), (4, .int (nI (4 * j)))]) C.1 C.2.1 dL_law_925 hl (by decide) rfl (fun ls hl => ?_)
  refine lv_aload_n C.1 C.2.1 dL_law_927 rfl (lv_at hl 3 rfl) ?_
  refine lv_aload_n C.1 C.2.1 dL_law_928 rfl (lv_at hl 1 rfl) ?_
  refine lv_iload C.1 C.2.1 dL_law_929 (lv_at hl 5 rfl) ?_
  refine lv_iconst (v := 1) C.1 C.2.1 dL_law_931 (by decide) ?_
  refine lv_iadd C.1 C.2.1 dL_law_932 ?_
  refine k_sld C K hS (4 * j + 1) (by omega) (nI_k1 j) e1 dL_law_933 ?_
  obtain ⟨r2, hr2, hf⟩ := ob hf
  refine kci (kV (As := [.int a1]) (rest := []) C hl.1 hP hS (c_X9_levelCount w l C.2.2.2.2.2.2.2.2 (L := r1.2.2) hr2) (gV q1112 q1113 q1114 q10 q1115) hd_X9_levelCount (lt_Model h0_Model) (ob_Model h0_Model w r1.2.2 _) rfl ⟨rfl, rfl⟩ ⟨Nat.le_of_ble_eq_true rfl, Nat.le_of_ble_eq_true rfl⟩ rfl rfl (Nat.le_of_ble_eq_true rfl) dL_law_934 ⟨hc1, hs1⟩) hS (fun H locs hP hS => ?_)
  refine lv_istore (lv' := [(6, .int r2.1), (5, .int r1.1), (0, .ref b), (1, .ref (wAd w 0)), (2, .ref (wAd w 90)), (3, .ref (wAd w 108)), (4, .int (nI (4 * j)))]) C.1 C.2.1 dL_law_937 hl (by decide) rfl (fun ls hl => ?_)
  refine lv_aload_n C.1 C.2.1 dL_law_939 rfl (lv_at hl 4 rfl) ?_
  obtain ⟨r3, hr3, hf⟩ := ob hf
  refine kci (kV (As := []) (rest := []) C hl.1 hP hS (c_X9_thrown w l C.2.2.2.2.2.2.2.2 (L := r1.2.2) hr3) (gV q948 q949 q950 q10 q951) hd_X9_thrown (lt_Model h0_Model) (ob_Model h0_Model w r1.2.2 _) rfl ⟨rfl, rfl⟩ ⟨Nat.le_of_ble_eq_true rfl, Nat.le_of_ble_eq_true rfl⟩ rfl rfl (Nat.le_of_ble_eq_true rfl) dL_law_940 ⟨hc1, hs1⟩) hS (fun H locs hP hS => ?_)
  refine lv_iload C.1 C.2.1 dL_law_943 (lv_at hl 1 rfl) ?_
  refine lv_icmp_eq (tgt := 950) C.1 C.2.1 dL_law_945 (by decide) (fun c4 => ?_) (fun c4 => ?_)
  · have hf := (if_pos c4).symm.trans hf
    refine lv_iload C.1 C.2.1 dL_law_950 (lv_at hl 1 rfl) ?_
    refine lv_if_ne (tgt := 967) C.1 C.2.1 dL_law_952 (by decide) (fun c5 => ?_) (fun c5 => ?_)
    · have hf := (if_neg c5).symm.trans hf
      refine lv_goto (tgt := 1385) C.1 C.2.1 dL_law_967 (by decide) ?_
      cases hf
      exact hgo _ _ _ hP hS (lv_sub hl [2, 3, 4, 5, 6] rfl)
    · have hf := (if_pos c5).symm.trans hf
      refine lv_aload_n C.1 C.2.1 dL_law_955 rfl (lv_at hl 5 rfl) ?_
      refine lv_iconst (v := 0) C.1 C.2.1 dL_law_956 (by decide) ?_
      refine k_lald C hP dL_law_957 ?_
      refine lv_iload C.1 C.2.1 dL_law_958 (lv_at hl 0 rfl) ?_
      refine lv_i2l (v := (Int32.toInt64 r2.1)) C.1 C.2.1 dL_law_960 rfl ?_
      refine W.lcmp C.1 C.2.1 dL_law_961 ?_
      refine lv_if_eq (tgt := 967) C.1 C.2.1 dL_law_962 (by decide) (fun c6 => ?_) (fun c6 => ?_)
      · have hf := (if_pos c6).symm.trans hf
        refine lv_goto (tgt := 1385) C.1 C.2.1 dL_law_967 (by decide) ?_
        cases hf
        exact hgo _ _ _ hP hS (lv_sub hl [2, 3, 4, 5, 6] rfl)
      · have hf := (if_neg c6).symm.trans hf
        refine lv_iconst (v := 0) C.1 C.2.1 dL_law_965 (by decide) ?_
        cases hf
  · have hf := (if_neg c4).symm.trans hf
    refine lv_iconst (v := 0) C.1 C.2.1 dL_law_948 (by decide) ?_
    cases hf
set_option maxHeartbeats 4000000 in
set_option maxRecDepth 100000 in
theorem w_lc15 {w : WT} {p : Program} {l : Launch} {e : Env} {s : State} {m : MethodId} {args : Array Value} {below : List Frame} {meth : Method} {c : Code} {cells slots : Nat} {Q : State → Prop} (C : KC w p s m args meth c cL_law 9 RL (some .boolean)) (hfl : l.stackTraces = false) {b Ln j : Nat} {xs : Nat → Int32} (K : KW w s b Ln xs) (hj : 4 * j + 4 ≤ Ln) {a1 a2 a3 : Int32} (e1 : xs (4 * j + 1) = a1) (e2 : xs (4 * j + 2) = a2) (e3 : xs (4 * j + 3) = a3) (hc1 : cells + 1 ≤ room_1.cells) (hs1 : slots + 6 ≤ room_1.slots) {M : Mem} {L : Lng} {out : Mem × Lng} (hf : f_lc15 a1 a2 a3 M L = some (.inl out))
    (hgo : ∀ (H : Heap) (locs : List Loc) (ls : Array Slot), va_P (wD w) vwCl (pic w out.1 out.2) H → va_S (wA w) s.heap H locs → lv_has ls 9 [(0, .ref b), (1, .ref (wAd w 0)), (2, .ref (wAd w 90)), (3, .ref (wAd w 108)), (4, .int (nI (4 * j)))] → W p l e room_1 s m args below meth c H locs (cells + 1) (slots + 6) Q (F0 m 1385 ls []))
    (H : Heap) (locs : List Loc) (ls : Array Slot) (hP : va_P (wD w) vwCl (pic w M L) H) (hS : va_S (wA w) s.heap H locs) (hl : lv_has ls 9 [(0, .ref b), (1, .ref (wAd w 0)), (2, .ref (wAd w 90)), (3, .ref (wAd w 108)), (4, .int (nI (4 * j)))]) : W p l e room_1 s m args below meth c H locs cells slots Q (F0 m 970 ls []) := by
  unfold f_lc15 at hf
  refine lv_aload_n C.1 C.2.1 dL_law_970 rfl (lv_at hl 1 rfl) ?_
  refine lv_aload_n C.1 C.2.1 dL_law_971 rfl (lv_at hl 0 rfl) ?_
  refine lv_iload C.1 C.2.1 dL_law_972 (lv_at hl 4 rfl) ?_
  refine lv_iconst (v := 1) C.1 C.2.1 dL_law_974 (by decide) ?_
  refine lv_iadd C.1 C.2.1 dL_law_975 ?_
  refine k_sld C K hS (4 * j + 1) (by omega) (nI_k1 j) e1 dL_law_976 ?_
  refine lv_aload_n C.1 C.2.1 dL_law_977 rfl (lv_at hl 3 rfl) ?_
  obtain ⟨r1, hr1, hf⟩ := ob hf
  refine kcim (kLW (As := [.ref (wAd w 0), .int a1, .ref (wAd w 108)]) (rest := []) C K hl.1 hP hS (c_L_percentLevel w l C.2.2.2.2.2.2.2.2 hfl hr1) q812 q813 q0 q814 hd_L_percentLevel ⟨rfl, rfl⟩ ⟨Nat.le_of_ble_eq_true rfl, Nat.le_of_ble_eq_true rfl⟩ rfl rfl (Nat.le_of_ble_eq_true rfl) dL_law_978 ⟨hc1, hs1⟩) hS (fun H locs hP hS => ?_)
  refine lv_istore (lv' := [(5, .int r1.1), (0, .ref b), (1, .ref (wAd w 0)), (2, .ref (wAd w 90)), (3, .ref (wAd w 108)), (4, .int (nI (4 * j)))]) C.1 C.2.1 dL_law_981 hl (by decide) rfl (fun ls hl => ?_)
  refine lv_aload_n C.1 C.2.1 dL_law_983 rfl (lv_at hl 3 rfl) ?_
  refine lv_aload_n C.1 C.2.1 dL_law_984 rfl (lv_at hl 1 rfl) ?_
  refine lv_iload C.1 C.2.1 dL_law_985 (lv_at hl 5 rfl) ?_
  refine lv_iconst (v := 1) C.1 C.2.1 dL_law_987 (by decide) ?_
  refine lv_iadd C.1 C.2.1 dL_law_988 ?_
  refine k_sld C K hS (4 * j + 1) (by omega) (nI_k1 j) e1 dL_law_989 ?_
  obtain ⟨r2, hr2, hf⟩ := ob hf
  refine kci (kV (As := [.int a1]) (rest := []) C hl.1 hP hS (c_X9_percentLevel w l C.2.2.2.2.2.2.2.2 (L := r1.2.2) hr2) (gV q1120 q1121 q1122 q10 q1123) hd_X9_percentLevel (lt_Model h0_Model) (ob_Model h0_Model w r1.2.2 _) rfl ⟨rfl, rfl⟩ ⟨Nat.le_of_ble_eq_true rfl, Nat.le_of_ble_eq_true rfl⟩ rfl rfl (Nat.le_of_ble_eq_true rfl) dL_law_990 ⟨hc1, hs1⟩) hS (fun H locs hP hS => ?_)
  refine lv_istore (lv' := [(6, .int r2.1), (5, .int r1.1), (0, .ref b), (1, .ref (wAd w 0)), (2, .ref (wAd w 90)), (3, .ref (wAd w 108)), (4, .int (nI (4 * j)))]) C.1 C.2.1 dL_law_993 hl (by decide) rfl (fun ls hl => ?_)
  refine lv_aload_n C.1 C.2.1 dL_law_995 rfl (lv_at hl 4 rfl) ?_
  obtain ⟨r3, hr3, hf⟩ := ob hf
  refine kci (kV (As := []) (rest := []) C hl.1 hP hS (c_X9_thrown w l C.2.2.2.2.2.2.2.2 (L := r1.2.2) hr3) (gV q948 q949 q950 q10 q951) hd_X9_thrown (lt_Model h0_Model) (ob_Model h0_Model w r1.2.2 _) rfl ⟨rfl, rfl⟩ ⟨Nat.le_of_ble_eq_true rfl, Nat.le_of_ble_eq_true rfl⟩ rfl rfl (Nat.le_of_ble_eq_true rfl) dL_law_996 ⟨hc1, hs1⟩) hS (fun H locs hP hS => ?_)
  refine lv_iload C.1 C.2.1 dL_law_999 (lv_at hl 1 rfl) ?_
  refine lv_icmp_eq (tgt := 1006) C.1 C.2.1 dL_law_1001 (by decide) (fun c4 => ?_) (fun c4 => ?_)
  · have hf := (if_pos c4).symm.trans hf
    refine lv_iload C.1 C.2.1 dL_law_1006 (lv_at hl 1 rfl) ?_
    refine lv_if_ne (tgt := 1023) C.1 C.2.1 dL_law_1008 (by decide) (fun c5 => ?_) (fun c5 => ?_)
    · have hf := (if_neg c5).symm.trans hf
      refine lv_goto (tgt := 1385) C.1 C.2.1 dL_law_1023 (by decide) ?_
      cases hf
      exact hgo _ _ _ hP hS (lv_sub hl [2, 3, 4, 5, 6] rfl)
    · have hf := (if_pos c5).symm.trans hf
      refine lv_aload_n C.1 C.2.1 dL_law_1011 rfl (lv_at hl 5 rfl) ?_
      refine lv_iconst (v := 0) C.1 C.2.1 dL_law_1012 (by decide) ?_
      refine k_lald C hP dL_law_1013 ?_
      refine lv_iload C.1 C.2.1 dL_law_1014 (lv_at hl 0 rfl) ?_
      refine lv_i2l (v := (Int32.toInt64 r2.1)) C.1 C.2.1 dL_law_1016 rfl ?_
      refine W.lcmp C.1 C.2.1 dL_law_1017 ?_
      refine lv_if_eq (tgt := 1023) C.1 C.2.1 dL_law_1018 (by decide) (fun c6 => ?_) (fun c6 => ?_)
      · have hf := (if_pos c6).symm.trans hf
        refine lv_goto (tgt := 1385) C.1 C.2.1 dL_law_1023 (by decide) ?_
        cases hf
        exact hgo _ _ _ hP hS (lv_sub hl [2, 3, 4, 5, 6] rfl)
      · have hf := (if_neg c6).symm.trans hf
        refine lv_iconst (v := 0) C.1 C.2.1 dL_law_1021 (by decide) ?_
        cases hf
  · have hf := (if_neg c4).symm.trans hf
    refine lv_iconst (v := 0) C.1 C.2.1 dL_law_1004 (by decide) ?_
    cases hf
set_option maxHeartbeats 4000000 in
set_option maxRecDepth 100000 in
theorem w_lc16 {w : WT} {p : Program} {l : Launch} {e : Env} {s : State} {m : MethodId} {args : Array Value} {below : List Frame} {meth : Method} {c : Code} {cells slots : Nat} {Q : State → Prop} (C : KC w p s m args meth c cL_law 9 RL (some .boolean)) (hfl : l.stackTraces = false) {b Ln j : Nat} {xs : Nat → Int32} (K : KW w s b Ln xs) (hj : 4 * j + 4 ≤ Ln) {a1 a2 a3 : Int32} (e1 : xs (4 * j + 1) = a1) (e2 : xs (4 * j + 2) = a2) (e3 : xs (4 * j + 3) = a3) (hc1 : cells + 1 ≤ room_1.cells) (hs1 : slots + 6 ≤ room_1.slots) {M : Mem} {L : Lng} {out : Mem × Lng} (hf : f_lc16 a1 a2 a3 M L = some (.inl out))
    (hgo : ∀ (H : Heap) (locs : List Loc) (ls : Array Slot), va_P (wD w) vwCl (pic w out.1 out.2) H → va_S (wA w) s.heap H locs → lv_has ls 9 [(0, .ref b), (1, .ref (wAd w 0)), (2, .ref (wAd w 90)), (3, .ref (wAd w 108)), (4, .int (nI (4 * j)))] → W p l e room_1 s m args below meth c H locs (cells + 1) (slots + 6) Q (F0 m 1385 ls []))
    (H : Heap) (locs : List Loc) (ls : Array Slot) (hP : va_P (wD w) vwCl (pic w M L) H) (hS : va_S (wA w) s.heap H locs) (hl : lv_has ls 9 [(0, .ref b), (1, .ref (wAd w 0)), (2, .ref (wAd w 90)), (3, .ref (wAd w 108)), (4, .int (nI (4 * j)))]) : W p l e room_1 s m args below meth c H locs cells slots Q (F0 m 1026 ls []) := by
  unfold f_lc16 at hf
  refine lv_aload_n C.1 C.2.1 dL_law_1026 rfl (lv_at hl 1 rfl) ?_
  refine lv_aload_n C.1 C.2.1 dL_law_1027 rfl (lv_at hl 0 rfl) ?_
  refine lv_iload C.1 C.2.1 dL_law_1028 (lv_at hl 4 rfl) ?_
  refine lv_iconst (v := 1) C.1 C.2.1 dL_law_1030 (by decide) ?_
  refine lv_iadd C.1 C.2.1 dL_law_1031 ?_
  refine k_sld C K hS (4 * j + 1) (by omega) (nI_k1 j) e1 dL_law_1032 ?_
  refine lv_aload_n C.1 C.2.1 dL_law_1033 rfl (lv_at hl 3 rfl) ?_
  obtain ⟨r1, hr1, hf⟩ := ob hf
  refine kcim (kLW (As := [.ref (wAd w 0), .int a1, .ref (wAd w 108)]) (rest := []) C K hl.1 hP hS (c_L_count w l C.2.2.2.2.2.2.2.2 hfl hr1) q820 q821 q0 q822 hd_L_count ⟨rfl, rfl⟩ ⟨Nat.le_of_ble_eq_true rfl, Nat.le_of_ble_eq_true rfl⟩ rfl rfl (Nat.le_of_ble_eq_true rfl) dL_law_1034 ⟨hc1, hs1⟩) hS (fun H locs hP hS => ?_)
  refine lv_istore (lv' := [(5, .int r1.1), (0, .ref b), (1, .ref (wAd w 0)), (2, .ref (wAd w 90)), (3, .ref (wAd w 108)), (4, .int (nI (4 * j)))]) C.1 C.2.1 dL_law_1037 hl (by decide) rfl (fun ls hl => ?_)
  refine lv_aload_n C.1 C.2.1 dL_law_1039 rfl (lv_at hl 3 rfl) ?_
  refine lv_aload_n C.1 C.2.1 dL_law_1040 rfl (lv_at hl 1 rfl) ?_
  refine lv_iload C.1 C.2.1 dL_law_1041 (lv_at hl 5 rfl) ?_
  refine lv_iconst (v := 1) C.1 C.2.1 dL_law_1043 (by decide) ?_
  refine lv_iadd C.1 C.2.1 dL_law_1044 ?_
  refine k_sld C K hS (4 * j + 1) (by omega) (nI_k1 j) e1 dL_law_1045 ?_
  obtain ⟨r2, hr2, hf⟩ := ob hf
  refine kci (kV (As := [.int a1]) (rest := []) C hl.1 hP hS (c_X9_count w l C.2.2.2.2.2.2.2.2 (L := r1.2.2) hr2) (gV q1128 q1129 q1130 q10 q1131) hd_X9_count (lt_Model h0_Model) (ob_Model h0_Model w r1.2.2 _) rfl ⟨rfl, rfl⟩ ⟨Nat.le_of_ble_eq_true rfl, Nat.le_of_ble_eq_true rfl⟩ rfl rfl (Nat.le_of_ble_eq_true rfl) dL_law_1046 ⟨hc1, hs1⟩) hS (fun H locs hP hS => ?_)
  refine lv_istore (lv' := [(6, .int r2.1), (5, .int r1.1), (0, .ref b), (1, .ref (wAd w 0)), (2, .ref (wAd w 90)), (3, .ref (wAd w 108)), (4, .int (nI (4 * j)))]) C.1 C.2.1 dL_law_1049 hl (by decide) rfl (fun ls hl => ?_)
  refine lv_aload_n C.1 C.2.1 dL_law_1051 rfl (lv_at hl 4 rfl) ?_
  obtain ⟨r3, hr3, hf⟩ := ob hf
  refine kci (kV (As := []) (rest := []) C hl.1 hP hS (c_X9_thrown w l C.2.2.2.2.2.2.2.2 (L := r1.2.2) hr3) (gV q948 q949 q950 q10 q951) hd_X9_thrown (lt_Model h0_Model) (ob_Model h0_Model w r1.2.2 _) rfl ⟨rfl, rfl⟩ ⟨Nat.le_of_ble_eq_true rfl, Nat.le_of_ble_eq_true rfl⟩ rfl rfl (Nat.le_of_ble_eq_true rfl) dL_law_1052 ⟨hc1, hs1⟩) hS (fun H locs hP hS => ?_)
  refine lv_iload C.1 C.2.1 dL_law_1055 (lv_at hl 1 rfl) ?_
  refine lv_icmp_eq (tgt := 1062) C.1 C.2.1 dL_law_1057 (by decide) (fun c4 => ?_) (fun c4 => ?_)
  · have hf := (if_pos c4).symm.trans hf
    refine lv_iload C.1 C.2.1 dL_law_1062 (lv_at hl 1 rfl) ?_
    refine lv_if_ne (tgt := 1079) C.1 C.2.1 dL_law_1064 (by decide) (fun c5 => ?_) (fun c5 => ?_)
    · have hf := (if_neg c5).symm.trans hf
      refine lv_goto (tgt := 1385) C.1 C.2.1 dL_law_1079 (by decide) ?_
      cases hf
      exact hgo _ _ _ hP hS (lv_sub hl [2, 3, 4, 5, 6] rfl)
    · have hf := (if_pos c5).symm.trans hf
      refine lv_aload_n C.1 C.2.1 dL_law_1067 rfl (lv_at hl 5 rfl) ?_
      refine lv_iconst (v := 0) C.1 C.2.1 dL_law_1068 (by decide) ?_
      refine k_lald C hP dL_law_1069 ?_
      refine lv_iload C.1 C.2.1 dL_law_1070 (lv_at hl 0 rfl) ?_
      refine lv_i2l (v := (Int32.toInt64 r2.1)) C.1 C.2.1 dL_law_1072 rfl ?_
      refine W.lcmp C.1 C.2.1 dL_law_1073 ?_
      refine lv_if_eq (tgt := 1079) C.1 C.2.1 dL_law_1074 (by decide) (fun c6 => ?_) (fun c6 => ?_)
      · have hf := (if_pos c6).symm.trans hf
        refine lv_goto (tgt := 1385) C.1 C.2.1 dL_law_1079 (by decide) ?_
        cases hf
        exact hgo _ _ _ hP hS (lv_sub hl [2, 3, 4, 5, 6] rfl)
      · have hf := (if_neg c6).symm.trans hf
        refine lv_iconst (v := 0) C.1 C.2.1 dL_law_1077 (by decide) ?_
        cases hf
  · have hf := (if_neg c4).symm.trans hf
    refine lv_iconst (v := 0) C.1 C.2.1 dL_law_1060 (by decide) ?_
    cases hf
set_option maxHeartbeats 4000000 in
set_option maxRecDepth 100000 in
theorem w_lc17 {w : WT} {p : Program} {l : Launch} {e : Env} {s : State} {m : MethodId} {args : Array Value} {below : List Frame} {meth : Method} {c : Code} {cells slots : Nat} {Q : State → Prop} (C : KC w p s m args meth c cL_law 9 RL (some .boolean)) (hfl : l.stackTraces = false) {b Ln j : Nat} {xs : Nat → Int32} (K : KW w s b Ln xs) (hj : 4 * j + 4 ≤ Ln) {a1 a2 a3 : Int32} (e1 : xs (4 * j + 1) = a1) (e2 : xs (4 * j + 2) = a2) (e3 : xs (4 * j + 3) = a3) (hc1 : cells + 1 ≤ room_1.cells) (hs1 : slots + 6 ≤ room_1.slots) {M : Mem} {L : Lng} {out : Mem × Lng} (hf : f_lc17 a1 a2 a3 M L = some (.inl out))
    (hgo : ∀ (H : Heap) (locs : List Loc) (ls : Array Slot), va_P (wD w) vwCl (pic w out.1 out.2) H → va_S (wA w) s.heap H locs → lv_has ls 9 [(0, .ref b), (1, .ref (wAd w 0)), (2, .ref (wAd w 90)), (3, .ref (wAd w 108)), (4, .int (nI (4 * j)))] → W p l e room_1 s m args below meth c H locs (cells + 1) (slots + 6) Q (F0 m 1385 ls []))
    (H : Heap) (locs : List Loc) (ls : Array Slot) (hP : va_P (wD w) vwCl (pic w M L) H) (hS : va_S (wA w) s.heap H locs) (hl : lv_has ls 9 [(0, .ref b), (1, .ref (wAd w 0)), (2, .ref (wAd w 90)), (3, .ref (wAd w 108)), (4, .int (nI (4 * j)))]) : W p l e room_1 s m args below meth c H locs cells slots Q (F0 m 1082 ls []) := by
  unfold f_lc17 at hf
  refine lv_aload_n C.1 C.2.1 dL_law_1082 rfl (lv_at hl 1 rfl) ?_
  refine lv_aload_n C.1 C.2.1 dL_law_1083 rfl (lv_at hl 0 rfl) ?_
  refine lv_iload C.1 C.2.1 dL_law_1084 (lv_at hl 4 rfl) ?_
  refine lv_iconst (v := 1) C.1 C.2.1 dL_law_1086 (by decide) ?_
  refine lv_iadd C.1 C.2.1 dL_law_1087 ?_
  refine k_sld C K hS (4 * j + 1) (by omega) (nI_k1 j) e1 dL_law_1088 ?_
  refine lv_aload_n C.1 C.2.1 dL_law_1089 rfl (lv_at hl 3 rfl) ?_
  obtain ⟨r1, hr1, hf⟩ := ob hf
  refine kcim (kLW (As := [.ref (wAd w 0), .int a1, .ref (wAd w 108)]) (rest := []) C K hl.1 hP hS (c_L_setting w l C.2.2.2.2.2.2.2.2 hfl hr1) q827 q828 q0 q829 hd_L_setting ⟨rfl, rfl⟩ ⟨Nat.le_of_ble_eq_true rfl, Nat.le_of_ble_eq_true rfl⟩ rfl rfl (Nat.le_of_ble_eq_true rfl) dL_law_1090 ⟨hc1, hs1⟩) hS (fun H locs hP hS => ?_)
  refine lv_istore (lv' := [(5, .int r1.1), (0, .ref b), (1, .ref (wAd w 0)), (2, .ref (wAd w 90)), (3, .ref (wAd w 108)), (4, .int (nI (4 * j)))]) C.1 C.2.1 dL_law_1093 hl (by decide) rfl (fun ls hl => ?_)
  refine lv_aload_n C.1 C.2.1 dL_law_1095 rfl (lv_at hl 3 rfl) ?_
  refine lv_aload_n C.1 C.2.1 dL_law_1096 rfl (lv_at hl 1 rfl) ?_
  refine lv_iload C.1 C.2.1 dL_law_1097 (lv_at hl 5 rfl) ?_
  refine lv_iconst (v := 1) C.1 C.2.1 dL_law_1099 (by decide) ?_
  refine lv_iadd C.1 C.2.1 dL_law_1100 ?_
  refine k_sld C K hS (4 * j + 1) (by omega) (nI_k1 j) e1 dL_law_1101 ?_
  obtain ⟨r2, hr2, hf⟩ := ob hf
  refine kci (kV (As := [.int a1]) (rest := []) C hl.1 hP hS (c_X9_setting w l C.2.2.2.2.2.2.2.2 (L := r1.2.2) hr2) (gV q1156 q1157 q1158 q10 q1159) hd_X9_setting (lt_Model h0_Model) (ob_Model h0_Model w r1.2.2 _) rfl ⟨rfl, rfl⟩ ⟨Nat.le_of_ble_eq_true rfl, Nat.le_of_ble_eq_true rfl⟩ rfl rfl (Nat.le_of_ble_eq_true rfl) dL_law_1102 ⟨hc1, hs1⟩) hS (fun H locs hP hS => ?_)
  refine lv_istore (lv' := [(6, .int r2.1), (5, .int r1.1), (0, .ref b), (1, .ref (wAd w 0)), (2, .ref (wAd w 90)), (3, .ref (wAd w 108)), (4, .int (nI (4 * j)))]) C.1 C.2.1 dL_law_1105 hl (by decide) rfl (fun ls hl => ?_)
  refine lv_aload_n C.1 C.2.1 dL_law_1107 rfl (lv_at hl 4 rfl) ?_
  obtain ⟨r3, hr3, hf⟩ := ob hf
  refine kci (kV (As := []) (rest := []) C hl.1 hP hS (c_X9_thrown w l C.2.2.2.2.2.2.2.2 (L := r1.2.2) hr3) (gV q948 q949 q950 q10 q951) hd_X9_thrown (lt_Model h0_Model) (ob_Model h0_Model w r1.2.2 _) rfl ⟨rfl, rfl⟩ ⟨Nat.le_of_ble_eq_true rfl, Nat.le_of_ble_eq_true rfl⟩ rfl rfl (Nat.le_of_ble_eq_true rfl) dL_law_1108 ⟨hc1, hs1⟩) hS (fun H locs hP hS => ?_)
  refine lv_iload C.1 C.2.1 dL_law_1111 (lv_at hl 1 rfl) ?_
  refine lv_icmp_eq (tgt := 1118) C.1 C.2.1 dL_law_1113 (by decide) (fun c4 => ?_) (fun c4 => ?_)
  · have hf := (if_pos c4).symm.trans hf
    refine lv_iload C.1 C.2.1 dL_law_1118 (lv_at hl 1 rfl) ?_
    refine lv_if_ne (tgt := 1135) C.1 C.2.1 dL_law_1120 (by decide) (fun c5 => ?_) (fun c5 => ?_)
    · have hf := (if_neg c5).symm.trans hf
      refine lv_goto (tgt := 1385) C.1 C.2.1 dL_law_1135 (by decide) ?_
      cases hf
      exact hgo _ _ _ hP hS (lv_sub hl [2, 3, 4, 5, 6] rfl)
    · have hf := (if_pos c5).symm.trans hf
      refine lv_aload_n C.1 C.2.1 dL_law_1123 rfl (lv_at hl 5 rfl) ?_
      refine lv_iconst (v := 0) C.1 C.2.1 dL_law_1124 (by decide) ?_
      refine k_lald C hP dL_law_1125 ?_
      refine lv_iload C.1 C.2.1 dL_law_1126 (lv_at hl 0 rfl) ?_
      refine lv_i2l (v := (Int32.toInt64 r2.1)) C.1 C.2.1 dL_law_1128 rfl ?_
      refine W.lcmp C.1 C.2.1 dL_law_1129 ?_
      refine lv_if_eq (tgt := 1135) C.1 C.2.1 dL_law_1130 (by decide) (fun c6 => ?_) (fun c6 => ?_)
      · have hf := (if_pos c6).symm.trans hf
        refine lv_goto (tgt := 1385) C.1 C.2.1 dL_law_1135 (by decide) ?_
        cases hf
        exact hgo _ _ _ hP hS (lv_sub hl [2, 3, 4, 5, 6] rfl)
      · have hf := (if_neg c6).symm.trans hf
        refine lv_iconst (v := 0) C.1 C.2.1 dL_law_1133 (by decide) ?_
        cases hf
  · have hf := (if_neg c4).symm.trans hf
    refine lv_iconst (v := 0) C.1 C.2.1 dL_law_1116 (by decide) ?_
    cases hf
set_option maxHeartbeats 4000000 in
set_option maxRecDepth 100000 in
theorem w_lc18 {w : WT} {p : Program} {l : Launch} {e : Env} {s : State} {m : MethodId} {args : Array Value} {below : List Frame} {meth : Method} {c : Code} {cells slots : Nat} {Q : State → Prop} (C : KC w p s m args meth c cL_law 9 RL (some .boolean)) (hfl : l.stackTraces = false) {b Ln j : Nat} {xs : Nat → Int32} (K : KW w s b Ln xs) (hj : 4 * j + 4 ≤ Ln) {a1 a2 a3 : Int32} (e1 : xs (4 * j + 1) = a1) (e2 : xs (4 * j + 2) = a2) (e3 : xs (4 * j + 3) = a3) (hc1 : cells + 1 ≤ room_1.cells) (hs1 : slots + 6 ≤ room_1.slots) {M : Mem} {L : Lng} {out : Mem × Lng} (hf : f_lc18 a1 a2 a3 M L = some (.inl out))
    (hgo : ∀ (H : Heap) (locs : List Loc) (ls : Array Slot), va_P (wD w) vwCl (pic w out.1 out.2) H → va_S (wA w) s.heap H locs → lv_has ls 9 [(0, .ref b), (1, .ref (wAd w 0)), (2, .ref (wAd w 90)), (3, .ref (wAd w 108)), (4, .int (nI (4 * j)))] → W p l e room_1 s m args below meth c H locs (cells + 1) (slots + 6) Q (F0 m 1385 ls []))
    (H : Heap) (locs : List Loc) (ls : Array Slot) (hP : va_P (wD w) vwCl (pic w M L) H) (hS : va_S (wA w) s.heap H locs) (hl : lv_has ls 9 [(0, .ref b), (1, .ref (wAd w 0)), (2, .ref (wAd w 90)), (3, .ref (wAd w 108)), (4, .int (nI (4 * j)))]) : W p l e room_1 s m args below meth c H locs cells slots Q (F0 m 1138 ls []) := by
  unfold f_lc18 at hf
  refine lv_aload_n C.1 C.2.1 dL_law_1138 rfl (lv_at hl 1 rfl) ?_
  refine lv_aload_n C.1 C.2.1 dL_law_1139 rfl (lv_at hl 0 rfl) ?_
  refine lv_iload C.1 C.2.1 dL_law_1140 (lv_at hl 4 rfl) ?_
  refine lv_iconst (v := 1) C.1 C.2.1 dL_law_1142 (by decide) ?_
  refine lv_iadd C.1 C.2.1 dL_law_1143 ?_
  refine k_sld C K hS (4 * j + 1) (by omega) (nI_k1 j) e1 dL_law_1144 ?_
  refine lv_aload_n C.1 C.2.1 dL_law_1145 rfl (lv_at hl 0 rfl) ?_
  refine lv_iload C.1 C.2.1 dL_law_1146 (lv_at hl 4 rfl) ?_
  refine lv_iconst (v := 2) C.1 C.2.1 dL_law_1148 (by decide) ?_
  refine lv_iadd C.1 C.2.1 dL_law_1149 ?_
  refine k_sld C K hS (4 * j + 2) (by omega) (nI_k2 j) e2 dL_law_1150 ?_
  refine lv_aload_n C.1 C.2.1 dL_law_1151 rfl (lv_at hl 0 rfl) ?_
  refine lv_iload C.1 C.2.1 dL_law_1152 (lv_at hl 4 rfl) ?_
  refine lv_iconst (v := 3) C.1 C.2.1 dL_law_1154 (by decide) ?_
  refine lv_iadd C.1 C.2.1 dL_law_1155 ?_
  refine k_sld C K hS (4 * j + 3) (by omega) (nI_k3 j) e3 dL_law_1156 ?_
  refine lv_aload_n C.1 C.2.1 dL_law_1157 rfl (lv_at hl 3 rfl) ?_
  obtain ⟨r1, hr1, hf⟩ := ob hf
  refine kcim (kLW (As := [.ref (wAd w 0), .int a1, .int a2, .int a3, .ref (wAd w 108)]) (rest := []) C K hl.1 hP hS (c_L_ifSet w l C.2.2.2.2.2.2.2.2 hfl hr1) q834 q835 q0 q836 hd_L_ifSet ⟨rfl, rfl⟩ ⟨Nat.le_of_ble_eq_true rfl, Nat.le_of_ble_eq_true rfl⟩ rfl rfl (Nat.le_of_ble_eq_true rfl) dL_law_1158 ⟨hc1, hs1⟩) hS (fun H locs hP hS => ?_)
  refine lv_istore (lv' := [(5, .int r1.1), (0, .ref b), (1, .ref (wAd w 0)), (2, .ref (wAd w 90)), (3, .ref (wAd w 108)), (4, .int (nI (4 * j)))]) C.1 C.2.1 dL_law_1161 hl (by decide) rfl (fun ls hl => ?_)
  refine lv_aload_n C.1 C.2.1 dL_law_1163 rfl (lv_at hl 3 rfl) ?_
  refine lv_aload_n C.1 C.2.1 dL_law_1164 rfl (lv_at hl 1 rfl) ?_
  refine lv_iload C.1 C.2.1 dL_law_1165 (lv_at hl 5 rfl) ?_
  refine lv_iconst (v := 1) C.1 C.2.1 dL_law_1167 (by decide) ?_
  refine lv_iadd C.1 C.2.1 dL_law_1168 ?_
  refine k_sld C K hS (4 * j + 1) (by omega) (nI_k1 j) e1 dL_law_1169 ?_
  refine lv_aload_n C.1 C.2.1 dL_law_1170 rfl (lv_at hl 1 rfl) ?_
  refine lv_iload C.1 C.2.1 dL_law_1171 (lv_at hl 5 rfl) ?_
  refine lv_iconst (v := 2) C.1 C.2.1 dL_law_1173 (by decide) ?_
  refine lv_iadd C.1 C.2.1 dL_law_1174 ?_
  refine k_sld C K hS (4 * j + 2) (by omega) (nI_k2 j) e2 dL_law_1175 ?_
  refine lv_aload_n C.1 C.2.1 dL_law_1176 rfl (lv_at hl 1 rfl) ?_
  refine lv_iload C.1 C.2.1 dL_law_1177 (lv_at hl 5 rfl) ?_
  refine lv_iconst (v := 3) C.1 C.2.1 dL_law_1179 (by decide) ?_
  refine lv_iadd C.1 C.2.1 dL_law_1180 ?_
  refine k_sld C K hS (4 * j + 3) (by omega) (nI_k3 j) e3 dL_law_1181 ?_
  obtain ⟨r2, hr2, hf⟩ := ob hf
  refine kci (kV (As := [.int a1, .int a2, .int a3]) (rest := []) C hl.1 hP hS (c_X9_ifSet w l C.2.2.2.2.2.2.2.2 (L := r1.2.2) hr2) (gV q1160 q1161 q1162 q10 q1163) hd_X9_ifSet (lt_Model h0_Model) (ob_Model h0_Model w r1.2.2 _) rfl ⟨rfl, rfl⟩ ⟨Nat.le_of_ble_eq_true rfl, Nat.le_of_ble_eq_true rfl⟩ rfl rfl (Nat.le_of_ble_eq_true rfl) dL_law_1182 ⟨hc1, hs1⟩) hS (fun H locs hP hS => ?_)
  refine lv_istore (lv' := [(6, .int r2.1), (5, .int r1.1), (0, .ref b), (1, .ref (wAd w 0)), (2, .ref (wAd w 90)), (3, .ref (wAd w 108)), (4, .int (nI (4 * j)))]) C.1 C.2.1 dL_law_1185 hl (by decide) rfl (fun ls hl => ?_)
  refine lv_aload_n C.1 C.2.1 dL_law_1187 rfl (lv_at hl 4 rfl) ?_
  obtain ⟨r3, hr3, hf⟩ := ob hf
  refine kci (kV (As := []) (rest := []) C hl.1 hP hS (c_X9_thrown w l C.2.2.2.2.2.2.2.2 (L := r1.2.2) hr3) (gV q948 q949 q950 q10 q951) hd_X9_thrown (lt_Model h0_Model) (ob_Model h0_Model w r1.2.2 _) rfl ⟨rfl, rfl⟩ ⟨Nat.le_of_ble_eq_true rfl, Nat.le_of_ble_eq_true rfl⟩ rfl rfl (Nat.le_of_ble_eq_true rfl) dL_law_1188 ⟨hc1, hs1⟩) hS (fun H locs hP hS => ?_)
  refine lv_iload C.1 C.2.1 dL_law_1191 (lv_at hl 1 rfl) ?_
  refine lv_icmp_eq (tgt := 1198) C.1 C.2.1 dL_law_1193 (by decide) (fun c4 => ?_) (fun c4 => ?_)
  · have hf := (if_pos c4).symm.trans hf
    refine lv_iload C.1 C.2.1 dL_law_1198 (lv_at hl 1 rfl) ?_
    refine lv_if_ne (tgt := 1215) C.1 C.2.1 dL_law_1200 (by decide) (fun c5 => ?_) (fun c5 => ?_)
    · have hf := (if_neg c5).symm.trans hf
      refine lv_goto (tgt := 1385) C.1 C.2.1 dL_law_1215 (by decide) ?_
      cases hf
      exact hgo _ _ _ hP hS (lv_sub hl [2, 3, 4, 5, 6] rfl)
    · have hf := (if_pos c5).symm.trans hf
      refine lv_aload_n C.1 C.2.1 dL_law_1203 rfl (lv_at hl 5 rfl) ?_
      refine lv_iconst (v := 0) C.1 C.2.1 dL_law_1204 (by decide) ?_
      refine k_lald C hP dL_law_1205 ?_
      refine lv_iload C.1 C.2.1 dL_law_1206 (lv_at hl 0 rfl) ?_
      refine lv_i2l (v := (Int32.toInt64 r2.1)) C.1 C.2.1 dL_law_1208 rfl ?_
      refine W.lcmp C.1 C.2.1 dL_law_1209 ?_
      refine lv_if_eq (tgt := 1215) C.1 C.2.1 dL_law_1210 (by decide) (fun c6 => ?_) (fun c6 => ?_)
      · have hf := (if_pos c6).symm.trans hf
        refine lv_goto (tgt := 1385) C.1 C.2.1 dL_law_1215 (by decide) ?_
        cases hf
        exact hgo _ _ _ hP hS (lv_sub hl [2, 3, 4, 5, 6] rfl)
      · have hf := (if_neg c6).symm.trans hf
        refine lv_iconst (v := 0) C.1 C.2.1 dL_law_1213 (by decide) ?_
        cases hf
  · have hf := (if_neg c4).symm.trans hf
    refine lv_iconst (v := 0) C.1 C.2.1 dL_law_1196 (by decide) ?_
    cases hf
set_option maxHeartbeats 4000000 in
set_option maxRecDepth 100000 in
theorem w_lc19 {w : WT} {p : Program} {l : Launch} {e : Env} {s : State} {m : MethodId} {args : Array Value} {below : List Frame} {meth : Method} {c : Code} {cells slots : Nat} {Q : State → Prop} (C : KC w p s m args meth c cL_law 9 RL (some .boolean)) (hfl : l.stackTraces = false) {b Ln j : Nat} {xs : Nat → Int32} (K : KW w s b Ln xs) (hj : 4 * j + 4 ≤ Ln) {a1 a2 a3 : Int32} (e1 : xs (4 * j + 1) = a1) (e2 : xs (4 * j + 2) = a2) (e3 : xs (4 * j + 3) = a3) (hc1 : cells + 1 ≤ room_1.cells) (hs1 : slots + 6 ≤ room_1.slots) {M : Mem} {L : Lng} {out : Mem × Lng} (hf : f_lc19 a1 a2 a3 M L = some (.inl out))
    (hgo : ∀ (H : Heap) (locs : List Loc) (ls : Array Slot), va_P (wD w) vwCl (pic w out.1 out.2) H → va_S (wA w) s.heap H locs → lv_has ls 9 [(0, .ref b), (1, .ref (wAd w 0)), (2, .ref (wAd w 90)), (3, .ref (wAd w 108)), (4, .int (nI (4 * j)))] → W p l e room_1 s m args below meth c H locs (cells + 1) (slots + 6) Q (F0 m 1385 ls []))
    (H : Heap) (locs : List Loc) (ls : Array Slot) (hP : va_P (wD w) vwCl (pic w M L) H) (hS : va_S (wA w) s.heap H locs) (hl : lv_has ls 9 [(0, .ref b), (1, .ref (wAd w 0)), (2, .ref (wAd w 90)), (3, .ref (wAd w 108)), (4, .int (nI (4 * j)))]) : W p l e room_1 s m args below meth c H locs cells slots Q (F0 m 1218 ls []) := by
  unfold f_lc19 at hf
  refine lv_aload_n C.1 C.2.1 dL_law_1218 rfl (lv_at hl 1 rfl) ?_
  refine lv_aload_n C.1 C.2.1 dL_law_1219 rfl (lv_at hl 0 rfl) ?_
  refine lv_iload C.1 C.2.1 dL_law_1220 (lv_at hl 4 rfl) ?_
  refine lv_iconst (v := 1) C.1 C.2.1 dL_law_1222 (by decide) ?_
  refine lv_iadd C.1 C.2.1 dL_law_1223 ?_
  refine k_sld C K hS (4 * j + 1) (by omega) (nI_k1 j) e1 dL_law_1224 ?_
  refine lv_aload_n C.1 C.2.1 dL_law_1225 rfl (lv_at hl 3 rfl) ?_
  obtain ⟨r1, hr1, hf⟩ := ob hf
  refine kcim (kLW (As := [.ref (wAd w 0), .int a1, .ref (wAd w 108)]) (rest := []) C K hl.1 hP hS (c_L_leastLimit w l C.2.2.2.2.2.2.2.2 hfl hr1) q842 q843 q0 q844 hd_L_leastLimit ⟨rfl, rfl⟩ ⟨Nat.le_of_ble_eq_true rfl, Nat.le_of_ble_eq_true rfl⟩ rfl rfl (Nat.le_of_ble_eq_true rfl) dL_law_1226 ⟨hc1, hs1⟩) hS (fun H locs hP hS => ?_)
  refine lv_istore (lv' := [(5, .int r1.1), (0, .ref b), (1, .ref (wAd w 0)), (2, .ref (wAd w 90)), (3, .ref (wAd w 108)), (4, .int (nI (4 * j)))]) C.1 C.2.1 dL_law_1229 hl (by decide) rfl (fun ls hl => ?_)
  refine lv_aload_n C.1 C.2.1 dL_law_1231 rfl (lv_at hl 3 rfl) ?_
  refine lv_aload_n C.1 C.2.1 dL_law_1232 rfl (lv_at hl 1 rfl) ?_
  refine lv_iload C.1 C.2.1 dL_law_1233 (lv_at hl 5 rfl) ?_
  refine lv_iconst (v := 1) C.1 C.2.1 dL_law_1235 (by decide) ?_
  refine lv_iadd C.1 C.2.1 dL_law_1236 ?_
  refine k_sld C K hS (4 * j + 1) (by omega) (nI_k1 j) e1 dL_law_1237 ?_
  obtain ⟨r2, hr2, hf⟩ := ob hf
  refine kci (kV (As := [.int a1]) (rest := []) C hl.1 hP hS (c_X9_leastLimit w l C.2.2.2.2.2.2.2.2 (L := r1.2.2) hr2) (gV q1168 q1169 q1170 q10 q1171) hd_X9_leastLimit (lt_Model h0_Model) (ob_Model h0_Model w r1.2.2 _) rfl ⟨rfl, rfl⟩ ⟨Nat.le_of_ble_eq_true rfl, Nat.le_of_ble_eq_true rfl⟩ rfl rfl (Nat.le_of_ble_eq_true rfl) dL_law_1238 ⟨hc1, hs1⟩) hS (fun H locs hP hS => ?_)
  refine lv_istore (lv' := [(6, .int r2.1), (5, .int r1.1), (0, .ref b), (1, .ref (wAd w 0)), (2, .ref (wAd w 90)), (3, .ref (wAd w 108)), (4, .int (nI (4 * j)))]) C.1 C.2.1 dL_law_1241 hl (by decide) rfl (fun ls hl => ?_)
  refine lv_aload_n C.1 C.2.1 dL_law_1243 rfl (lv_at hl 4 rfl) ?_
  obtain ⟨r3, hr3, hf⟩ := ob hf
  refine kci (kV (As := []) (rest := []) C hl.1 hP hS (c_X9_thrown w l C.2.2.2.2.2.2.2.2 (L := r1.2.2) hr3) (gV q948 q949 q950 q10 q951) hd_X9_thrown (lt_Model h0_Model) (ob_Model h0_Model w r1.2.2 _) rfl ⟨rfl, rfl⟩ ⟨Nat.le_of_ble_eq_true rfl, Nat.le_of_ble_eq_true rfl⟩ rfl rfl (Nat.le_of_ble_eq_true rfl) dL_law_1244 ⟨hc1, hs1⟩) hS (fun H locs hP hS => ?_)
  refine lv_iload C.1 C.2.1 dL_law_1247 (lv_at hl 1 rfl) ?_
  refine lv_icmp_eq (tgt := 1254) C.1 C.2.1 dL_law_1249 (by decide) (fun c4 => ?_) (fun c4 => ?_)
  · have hf := (if_pos c4).symm.trans hf
    refine lv_iload C.1 C.2.1 dL_law_1254 (lv_at hl 1 rfl) ?_
    refine lv_if_ne (tgt := 1271) C.1 C.2.1 dL_law_1256 (by decide) (fun c5 => ?_) (fun c5 => ?_)
    · have hf := (if_neg c5).symm.trans hf
      refine lv_goto (tgt := 1385) C.1 C.2.1 dL_law_1271 (by decide) ?_
      cases hf
      exact hgo _ _ _ hP hS (lv_sub hl [2, 3, 4, 5, 6] rfl)
    · have hf := (if_pos c5).symm.trans hf
      refine lv_aload_n C.1 C.2.1 dL_law_1259 rfl (lv_at hl 5 rfl) ?_
      refine lv_iconst (v := 0) C.1 C.2.1 dL_law_1260 (by decide) ?_
      refine k_lald C hP dL_law_1261 ?_
      refine lv_iload C.1 C.2.1 dL_law_1262 (lv_at hl 0 rfl) ?_
      refine lv_i2l (v := (Int32.toInt64 r2.1)) C.1 C.2.1 dL_law_1264 rfl ?_
      refine W.lcmp C.1 C.2.1 dL_law_1265 ?_
      refine lv_if_eq (tgt := 1271) C.1 C.2.1 dL_law_1266 (by decide) (fun c6 => ?_) (fun c6 => ?_)
      · have hf := (if_pos c6).symm.trans hf
        refine lv_goto (tgt := 1385) C.1 C.2.1 dL_law_1271 (by decide) ?_
        cases hf
        exact hgo _ _ _ hP hS (lv_sub hl [2, 3, 4, 5, 6] rfl)
      · have hf := (if_neg c6).symm.trans hf
        refine lv_iconst (v := 0) C.1 C.2.1 dL_law_1269 (by decide) ?_
        cases hf
  · have hf := (if_neg c4).symm.trans hf
    refine lv_iconst (v := 0) C.1 C.2.1 dL_law_1252 (by decide) ?_
    cases hf
set_option maxHeartbeats 4000000 in
set_option maxRecDepth 100000 in
theorem w_lc20 {w : WT} {p : Program} {l : Launch} {e : Env} {s : State} {m : MethodId} {args : Array Value} {below : List Frame} {meth : Method} {c : Code} {cells slots : Nat} {Q : State → Prop} (C : KC w p s m args meth c cL_law 9 RL (some .boolean)) (hfl : l.stackTraces = false) {b Ln j : Nat} {xs : Nat → Int32} (K : KW w s b Ln xs) (hj : 4 * j + 4 ≤ Ln) {a1 a2 a3 : Int32} (e1 : xs (4 * j + 1) = a1) (e2 : xs (4 * j + 2) = a2) (e3 : xs (4 * j + 3) = a3) (hc1 : cells + 1 ≤ room_1.cells) (hs1 : slots + 6 ≤ room_1.slots) {M : Mem} {L : Lng} {out : Mem × Lng} (hf : f_lc20 a1 a2 a3 M L = some (.inl out))
    (hgo : ∀ (H : Heap) (locs : List Loc) (ls : Array Slot), va_P (wD w) vwCl (pic w out.1 out.2) H → va_S (wA w) s.heap H locs → lv_has ls 9 [(0, .ref b), (1, .ref (wAd w 0)), (2, .ref (wAd w 90)), (3, .ref (wAd w 108)), (4, .int (nI (4 * j)))] → W p l e room_1 s m args below meth c H locs (cells + 1) (slots + 6) Q (F0 m 1385 ls []))
    (H : Heap) (locs : List Loc) (ls : Array Slot) (hP : va_P (wD w) vwCl (pic w M L) H) (hS : va_S (wA w) s.heap H locs) (hl : lv_has ls 9 [(0, .ref b), (1, .ref (wAd w 0)), (2, .ref (wAd w 90)), (3, .ref (wAd w 108)), (4, .int (nI (4 * j)))]) : W p l e room_1 s m args below meth c H locs cells slots Q (F0 m 1274 ls []) := by
  unfold f_lc20 at hf
  refine lv_aload_n C.1 C.2.1 dL_law_1274 rfl (lv_at hl 1 rfl) ?_
  refine lv_aload_n C.1 C.2.1 dL_law_1275 rfl (lv_at hl 0 rfl) ?_
  refine lv_iload C.1 C.2.1 dL_law_1276 (lv_at hl 4 rfl) ?_
  refine lv_iconst (v := 1) C.1 C.2.1 dL_law_1278 (by decide) ?_
  refine lv_iadd C.1 C.2.1 dL_law_1279 ?_
  refine k_sld C K hS (4 * j + 1) (by omega) (nI_k1 j) e1 dL_law_1280 ?_
  refine lv_aload_n C.1 C.2.1 dL_law_1281 rfl (lv_at hl 3 rfl) ?_
  obtain ⟨r1, hr1, hf⟩ := ob hf
  refine kcim (kLW (As := [.ref (wAd w 0), .int a1, .ref (wAd w 108)]) (rest := []) C K hl.1 hP hS (c_L_aboveIn w l C.2.2.2.2.2.2.2.2 hfl hr1) q850 q851 q0 q852 hd_L_aboveIn ⟨rfl, rfl⟩ ⟨Nat.le_of_ble_eq_true rfl, Nat.le_of_ble_eq_true rfl⟩ rfl rfl (Nat.le_of_ble_eq_true rfl) dL_law_1282 ⟨hc1, hs1⟩) hS (fun H locs hP hS => ?_)
  refine lv_istore (lv' := [(5, .int r1.1), (0, .ref b), (1, .ref (wAd w 0)), (2, .ref (wAd w 90)), (3, .ref (wAd w 108)), (4, .int (nI (4 * j)))]) C.1 C.2.1 dL_law_1285 hl (by decide) rfl (fun ls hl => ?_)
  refine lv_aload_n C.1 C.2.1 dL_law_1287 rfl (lv_at hl 3 rfl) ?_
  refine lv_aload_n C.1 C.2.1 dL_law_1288 rfl (lv_at hl 1 rfl) ?_
  refine lv_iload C.1 C.2.1 dL_law_1289 (lv_at hl 5 rfl) ?_
  refine lv_iconst (v := 1) C.1 C.2.1 dL_law_1291 (by decide) ?_
  refine lv_iadd C.1 C.2.1 dL_law_1292 ?_
  refine k_sld C K hS (4 * j + 1) (by omega) (nI_k1 j) e1 dL_law_1293 ?_
  obtain ⟨r2, hr2, hf⟩ := ob hf
  refine kci (kV (As := [.int a1]) (rest := []) C hl.1 hP hS (c_X9_aboveIn w l C.2.2.2.2.2.2.2.2 (L := r1.2.2) hr2) (gV q1176 q1177 q1178 q10 q1179) hd_X9_aboveIn (lt_Model h0_Model) (ob_Model h0_Model w r1.2.2 _) rfl ⟨rfl, rfl⟩ ⟨Nat.le_of_ble_eq_true rfl, Nat.le_of_ble_eq_true rfl⟩ rfl rfl (Nat.le_of_ble_eq_true rfl) dL_law_1294 ⟨hc1, hs1⟩) hS (fun H locs hP hS => ?_)
  refine lv_istore (lv' := [(6, .int r2.1), (5, .int r1.1), (0, .ref b), (1, .ref (wAd w 0)), (2, .ref (wAd w 90)), (3, .ref (wAd w 108)), (4, .int (nI (4 * j)))]) C.1 C.2.1 dL_law_1297 hl (by decide) rfl (fun ls hl => ?_)
  refine lv_aload_n C.1 C.2.1 dL_law_1299 rfl (lv_at hl 4 rfl) ?_
  obtain ⟨r3, hr3, hf⟩ := ob hf
  refine kci (kV (As := []) (rest := []) C hl.1 hP hS (c_X9_thrown w l C.2.2.2.2.2.2.2.2 (L := r1.2.2) hr3) (gV q948 q949 q950 q10 q951) hd_X9_thrown (lt_Model h0_Model) (ob_Model h0_Model w r1.2.2 _) rfl ⟨rfl, rfl⟩ ⟨Nat.le_of_ble_eq_true rfl, Nat.le_of_ble_eq_true rfl⟩ rfl rfl (Nat.le_of_ble_eq_true rfl) dL_law_1300 ⟨hc1, hs1⟩) hS (fun H locs hP hS => ?_)
  refine lv_iload C.1 C.2.1 dL_law_1303 (lv_at hl 1 rfl) ?_
  refine lv_icmp_eq (tgt := 1310) C.1 C.2.1 dL_law_1305 (by decide) (fun c4 => ?_) (fun c4 => ?_)
  · have hf := (if_pos c4).symm.trans hf
    refine lv_iload C.1 C.2.1 dL_law_1310 (lv_at hl 1 rfl) ?_
    refine lv_if_ne (tgt := 1327) C.1 C.2.1 dL_law_1312 (by decide) (fun c5 => ?_) (fun c5 => ?_)
    · have hf := (if_neg c5).symm.trans hf
      refine lv_goto (tgt := 1385) C.1 C.2.1 dL_law_1327 (by decide) ?_
      cases hf
      exact hgo _ _ _ hP hS (lv_sub hl [2, 3, 4, 5, 6] rfl)
    · have hf := (if_pos c5).symm.trans hf
      refine lv_aload_n C.1 C.2.1 dL_law_1315 rfl (lv_at hl 5 rfl) ?_
      refine lv_iconst (v := 0) C.1 C.2.1 dL_law_1316 (by decide) ?_
      refine k_lald C hP dL_law_1317 ?_
      refine lv_iload C.1 C.2.1 dL_law_1318 (lv_at hl 0 rfl) ?_
      refine lv_i2l (v := (Int32.toInt64 r2.1)) C.1 C.2.1 dL_law_1320 rfl ?_
      refine W.lcmp C.1 C.2.1 dL_law_1321 ?_
      refine lv_if_eq (tgt := 1327) C.1 C.2.1 dL_law_1322 (by decide) (fun c6 => ?_) (fun c6 => ?_)
      · have hf := (if_pos c6).symm.trans hf
        refine lv_goto (tgt := 1385) C.1 C.2.1 dL_law_1327 (by decide) ?_
        cases hf
        exact hgo _ _ _ hP hS (lv_sub hl [2, 3, 4, 5, 6] rfl)
      · have hf := (if_neg c6).symm.trans hf
        refine lv_iconst (v := 0) C.1 C.2.1 dL_law_1325 (by decide) ?_
        cases hf
  · have hf := (if_neg c4).symm.trans hf
    refine lv_iconst (v := 0) C.1 C.2.1 dL_law_1308 (by decide) ?_
    cases hf
set_option maxHeartbeats 4000000 in
set_option maxRecDepth 100000 in
theorem w_lc21 {w : WT} {p : Program} {l : Launch} {e : Env} {s : State} {m : MethodId} {args : Array Value} {below : List Frame} {meth : Method} {c : Code} {cells slots : Nat} {Q : State → Prop} (C : KC w p s m args meth c cL_law 9 RL (some .boolean)) (hfl : l.stackTraces = false) {b Ln j : Nat} {xs : Nat → Int32} (K : KW w s b Ln xs) (hj : 4 * j + 4 ≤ Ln) {a1 a2 a3 : Int32} (e1 : xs (4 * j + 1) = a1) (e2 : xs (4 * j + 2) = a2) (e3 : xs (4 * j + 3) = a3) (hc1 : cells + 1 ≤ room_1.cells) (hs1 : slots + 6 ≤ room_1.slots) {M : Mem} {L : Lng} {out : Mem × Lng} (hf : f_lc21 a1 a2 a3 M L = some (.inl out))
    (hgo : ∀ (H : Heap) (locs : List Loc) (ls : Array Slot), va_P (wD w) vwCl (pic w out.1 out.2) H → va_S (wA w) s.heap H locs → lv_has ls 9 [(0, .ref b), (1, .ref (wAd w 0)), (2, .ref (wAd w 90)), (3, .ref (wAd w 108)), (4, .int (nI (4 * j)))] → W p l e room_1 s m args below meth c H locs (cells + 1) (slots + 6) Q (F0 m 1385 ls []))
    (H : Heap) (locs : List Loc) (ls : Array Slot) (hP : va_P (wD w) vwCl (pic w M L) H) (hS : va_S (wA w) s.heap H locs) (hl : lv_has ls 9 [(0, .ref b), (1, .ref (wAd w 0)), (2, .ref (wAd w 90)), (3, .ref (wAd w 108)), (4, .int (nI (4 * j)))]) : W p l e room_1 s m args below meth c H locs cells slots Q (F0 m 1330 ls []) := by
  unfold f_lc21 at hf
  refine W.widen (k := cells + 1) (n := slots + 6) (Nat.le_add_right _ _) (Nat.le_add_right _ _) ?_
  refine lv_aload_n C.1 C.2.1 dL_law_1330 rfl (lv_at hl 1 rfl) ?_
  obtain ⟨r1, hr1, hf⟩ := ob hf
  refine kcd (kV (As := []) (rest := []) C hl.1 hP hS (c_X8_share w l C.2.2.2.2.2.2.2.2 (L := L) hr1) (gV q343 q344 q345 q1 q346) hd_X8_share (lt_NoisePost h0_NoisePost) (ob_NoisePost h0_NoisePost w L _) rfl ⟨rfl, rfl⟩ ⟨Nat.le_of_ble_eq_true rfl, Nat.le_of_ble_eq_true rfl⟩ rfl rfl (Nat.le_of_ble_eq_true rfl) dL_law_1331 ⟨hc1, hs1⟩) hS (fun H locs hP hS => ?_)
  refine lv_dstore (lv' := [(5, .double r1), (0, .ref b), (1, .ref (wAd w 0)), (2, .ref (wAd w 90)), (3, .ref (wAd w 108)), (4, .int (nI (4 * j)))]) C.1 C.2.1 dL_law_1334 hl (by decide) rfl (fun ls hl => ?_)
  refine lv_aload_n C.1 C.2.1 dL_law_1336 rfl (lv_at hl 3 rfl) ?_
  obtain ⟨r2, hr2, hf⟩ := ob hf
  refine kcd (kV (As := []) (rest := []) C hl.1 hP hS (c_X9_share w l C.2.2.2.2.2.2.2.2 (L := L) hr2) (gV q1184 q1185 q1186 q10 q1187) hd_X9_share (lt_Model h0_Model) (ob_Model h0_Model w L _) rfl ⟨rfl, rfl⟩ ⟨Nat.le_of_ble_eq_true rfl, Nat.le_of_ble_eq_true rfl⟩ rfl rfl (Nat.le_of_ble_eq_true rfl) dL_law_1337 ⟨hc1, hs1⟩) hS (fun H locs hP hS => ?_)
  refine lv_dstore (lv' := [(7, .double r2.1), (5, .double r1), (0, .ref b), (1, .ref (wAd w 0)), (2, .ref (wAd w 90)), (3, .ref (wAd w 108)), (4, .int (nI (4 * j)))]) C.1 C.2.1 dL_law_1340 hl (by decide) rfl (fun ls hl => ?_)
  refine lv_dload C.1 C.2.1 dL_law_1342 (lv_at hl 1 rfl) ?_
  refine lv_dload C.1 C.2.1 dL_law_1344 (lv_at hl 0 rfl) ?_
  refine lv_dcmp C.1 C.2.1 dL_law_1346 ?_
  refine lv_if_eq (tgt := 1368) C.1 C.2.1 dL_law_1347 (by decide) (fun c3 => ?_) (fun c3 => ?_)
  · have hf := (if_pos c3).symm.trans hf
    refine lv_goto (tgt := 1385) C.1 C.2.1 dL_law_1368 (by decide) ?_
    cases hf
    exact hgo _ _ _ hP hS (lv_sub hl [2, 3, 4, 5, 6] rfl)
  · have hf := (if_neg c3).symm.trans hf
    refine lv_dload C.1 C.2.1 dL_law_1350 (lv_at hl 1 rfl) ?_
    refine lv_dload C.1 C.2.1 dL_law_1352 (lv_at hl 1 rfl) ?_
    refine lv_dcmp C.1 C.2.1 dL_law_1354 ?_
    refine lv_if_eq (tgt := 1366) C.1 C.2.1 dL_law_1355 (by decide) (fun c4 => ?_) (fun c4 => ?_)
    · have hf := (if_pos c4).symm.trans hf
      refine lv_iconst (v := 0) C.1 C.2.1 dL_law_1366 (by decide) ?_
      cases hf
    · have hf := (if_neg c4).symm.trans hf
      refine lv_dload C.1 C.2.1 dL_law_1358 (lv_at hl 0 rfl) ?_
      refine lv_dload C.1 C.2.1 dL_law_1360 (lv_at hl 0 rfl) ?_
      refine lv_dcmp C.1 C.2.1 dL_law_1362 ?_
      refine lv_if_ne (tgt := 1368) C.1 C.2.1 dL_law_1363 (by decide) (fun c5 => ?_) (fun c5 => ?_)
      · have hf := (if_neg c5).symm.trans hf
        refine lv_goto (tgt := 1385) C.1 C.2.1 dL_law_1368 (by decide) ?_
        cases hf
        exact hgo _ _ _ hP hS (lv_sub hl [2, 3, 4, 5, 6] rfl)
      · have hf := (if_pos c5).symm.trans hf
        refine lv_iconst (v := 0) C.1 C.2.1 dL_law_1366 (by decide) ?_
        cases hf
set_option maxHeartbeats 4000000 in
set_option maxRecDepth 100000 in
theorem w_lc22 {w : WT} {p : Program} {l : Launch} {e : Env} {s : State} {m : MethodId} {args : Array Value} {below : List Frame} {meth : Method} {c : Code} {cells slots : Nat} {Q : State → Prop} (C : KC w p s m args meth c cL_law 9 RL (some .boolean)) (hfl : l.stackTraces = false) {b Ln j : Nat} {xs : Nat → Int32} (K : KW w s b Ln xs) (hj : 4 * j + 4 ≤ Ln) {a1 a2 a3 : Int32} (e1 : xs (4 * j + 1) = a1) (e2 : xs (4 * j + 2) = a2) (e3 : xs (4 * j + 3) = a3) (hc1 : cells + 1 ≤ room_1.cells) (hs1 : slots + 6 ≤ room_1.slots) {M : Mem} {L : Lng} {out : Mem × Lng} (hf : f_lc22 a1 a2 a3 M L = some (.inl out))
    (hgo : ∀ (H : Heap) (locs : List Loc) (ls : Array Slot), va_P (wD w) vwCl (pic w out.1 out.2) H → va_S (wA w) s.heap H locs → lv_has ls 9 [(0, .ref b), (1, .ref (wAd w 0)), (2, .ref (wAd w 90)), (3, .ref (wAd w 108)), (4, .int (nI (4 * j)))] → W p l e room_1 s m args below meth c H locs (cells + 1) (slots + 6) Q (F0 m 1385 ls []))
    (H : Heap) (locs : List Loc) (ls : Array Slot) (hP : va_P (wD w) vwCl (pic w M L) H) (hS : va_S (wA w) s.heap H locs) (hl : lv_has ls 9 [(0, .ref b), (1, .ref (wAd w 0)), (2, .ref (wAd w 90)), (3, .ref (wAd w 108)), (4, .int (nI (4 * j)))]) : W p l e room_1 s m args below meth c H locs cells slots Q (F0 m 1371 ls []) := by
  unfold f_lc22 at hf
  refine W.widen (k := cells + 1) (n := slots + 6) (Nat.le_add_right _ _) (Nat.le_add_right _ _) ?_
  refine lv_aload_n C.1 C.2.1 dL_law_1371 rfl (lv_at hl 1 rfl) ?_
  obtain ⟨r1, hr1, hf⟩ := ob hf
  refine kcl (kV (As := []) (rest := []) C hl.1 hP hS (c_X8_digest w l C.2.2.2.2.2.2.2.2 (L := L) hr1) (gV q351 q352 q353 q1 q354) hd_X8_digest (lt_NoisePost h0_NoisePost) (ob_NoisePost h0_NoisePost w L _) rfl ⟨rfl, rfl⟩ ⟨Nat.le_of_ble_eq_true rfl, Nat.le_of_ble_eq_true rfl⟩ rfl rfl (Nat.le_of_ble_eq_true rfl) dL_law_1372 ⟨hc1, hs1⟩) hS (fun H locs hP hS => ?_)
  refine lv_aload_n C.1 C.2.1 dL_law_1375 rfl (lv_at hl 2 rfl) ?_
  obtain ⟨r2, hr2, hf⟩ := ob hf
  refine kcl (kV (As := []) (rest := [.long r1]) C hl.1 hP hS (c_X9_digest w l C.2.2.2.2.2.2.2.2 hr2) (gV q1192 q1193 q1194 q10 q1195) hd_X9_digest (lt_Model h0_Model) (ob_Model h0_Model w L _) rfl ⟨rfl, rfl⟩ ⟨Nat.le_of_ble_eq_true rfl, Nat.le_of_ble_eq_true rfl⟩ rfl rfl (Nat.le_of_ble_eq_true rfl) dL_law_1376 ⟨hc1, hs1⟩) hS (fun H locs hP hS => ?_)
  refine W.lcmp C.1 C.2.1 dL_law_1379 ?_
  refine lv_if_eq (tgt := 1385) C.1 C.2.1 dL_law_1380 (by decide) (fun c3 => ?_) (fun c3 => ?_)
  · have hf := (if_pos c3).symm.trans hf
    cases hf
    exact hgo _ _ _ hP hS hl
  · have hf := (if_neg c3).symm.trans hf
    refine lv_iconst (v := 0) C.1 C.2.1 dL_law_1383 (by decide) ?_
    cases hf
