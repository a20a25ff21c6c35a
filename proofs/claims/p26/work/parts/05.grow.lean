/-! worlds that grow by the law's own rows -/
def cuA (b j : Nat) : Nat := b + j
def suA (b j : Nat) : Nat := b + 6 * j
theorem cu_s (b j : Nat) : cuA b (j + 1) = cuA b j + 1 := by unfold cuA; omega
theorem su_s (b j : Nat) : suA b (j + 1) = suA b j + 6 := by unfold suA; omega
theorem cu_b {j : Nat} (hj : j < FU) : cuA 5 j + 1 ≤ 20005 := by unfold FU at hj; unfold cuA; omega
theorem su_b {j : Nat} (hj : j < FU) : suA 246 j + 6 ≤ 120246 := by unfold FU at hj; unfold suA; omega
theorem fu_le : 0 + FU ≤ FU := Nat.le_of_eq (Nat.zero_add FU)
theorem cu_0 : 5 ≤ cuA 5 0 := by unfold cuA; omega
theorem su_0 : 246 ≤ suA 246 0 := by unfold suA; omega
def ushr (x y : Int32) : Int32 := (x.toUInt32 >>> (y.toUInt32 &&& Int32.toUInt32 31)).toInt32
def WX (w w' : WT) : Prop := wD w' = wD w ∧ wI w' = wI w ∧ wS w' = wS w ∧ wSt w' = wSt w ∧ wSz w' = wSz w ∧ wN w ≤ wN w' ∧ ∀ k, k < wN w → wAd w' k = wAd w k
theorem WX.trans {a b c : WT} (h : WX a b) (k : WX b c) : WX a c :=
  ⟨k.1.trans h.1, k.2.1.trans h.2.1, k.2.2.1.trans h.2.2.1, k.2.2.2.1.trans h.2.2.2.1, k.2.2.2.2.1.trans h.2.2.2.2.1, Nat.le_trans h.2.2.2.2.2.1 k.2.2.2.2.2.1, fun i hi => (k.2.2.2.2.2.2 i (Nat.lt_of_lt_of_le hi h.2.2.2.2.2.1)).trans (h.2.2.2.2.2.2 i hi)⟩
theorem WX.cell {w w' : WT} (h : WX w w') (hw : 95 ≤ wN w) (L : Lng) {c : Nat} (hc : c < 101) (row : Nat → Int32) : cellX w' L c row = cellX w L c row := by
  obtain ⟨-, h2, h3, -, -, -, h7⟩ := h
  have had : ∀ k, k < 95 → wAd w' k = wAd w k := fun k hk => h7 k (by omega)
  unfold cellX
  rw [h2]
  split
  · rename_i h0
    have hc2 : c < 90 := by
      rcases Nat.lt_or_ge c 90 with h | h
      · exact h
      · exfalso
        rcases (show c = 90 ∨ c = 91 ∨ c = 92 ∨ c = 93 ∨ c = 94 ∨ c = 95 ∨ c = 96 ∨ c = 97 ∨ c = 98 ∨ c = 99 ∨ c = 100 by omega) with rfl | rfl | rfl | rfl | rfl | rfl | rfl | rfl | rfl | rfl | rfl <;> exact absurd h0 (by decide)
    unfold objX
    split
    · unfold fs_NoisePost
      rw [had 1 (by decide), had 46 (by decide), had 48 (by decide), had 54 (by decide), had 71 (by decide), had 88 (by decide)]
    split
    · rename_i e
      subst e
      unfold fs_History
      rw [had _ (by decide)]
    split
    · have hr : ringX w' = ringX w := by
        funext i
        unfold ringX
        split
        · rw [had _ (by omega)]
        · rfl
      rw [h3, hr]
    split
    · rename_i e
      subst e
      unfold fs_Text
      rw [had _ (by decide), had _ (by decide), had _ (by decide), had _ (by decide), had _ (by decide)]
    split
    · rename_i e
      unfold fs_View
      rw [had _ (by omega), had _ (by omega), had _ (by omega), had _ (by omega)]
    split
    · rename_i e
      unfold fs_Minutes
      rw [had _ (by omega), had _ (by omega), had _ (by omega)]
    split
    · rename_i e
      unfold fs_Exceedances
      rw [had _ (by omega), had _ (by omega), had _ (by omega), had _ (by omega), had _ (by omega), had _ (by omega)]
    split
    · rename_i e
      unfold fs_Matches
      rw [had _ (by omega), had _ (by omega), had _ (by omega)]
    split
    · rename_i e
      unfold fs_LevelCounts
      rw [had _ (by omega)]
    · unfold fs_State
      rw [had _ (by omega), had _ (by omega), had _ (by omega), had _ (by omega)]
  · rfl
theorem WX.A {w w' : WT} (h : WX w w') : wA w' = wA w := by
  unfold wA
  rw [h.2.2.2.2.1]
theorem WX.picd {w w' : WT} (h : WX w w') (hw : 95 ≤ wN w) (hn : wN w ≤ 101) (M : Mem) (L : Lng) {H : Heap} (hP : va_P (wD w') vwCl (pic w' M L) H) : va_P (wD w) vwCl (pic w M L) H := by
  intro k q hk
  have hk1 : k < wN w := by
    have := (List.getElem?_eq_some_iff.mp hk).1
    simpa [pic] using this
  have e : (pic w' M L)[k]? = some q := by
    rw [← hk]
    simp [pic, hk1, Nat.lt_of_lt_of_le hk1 h.2.2.2.2.2.1, h.2.2.2.2.2.2 k hk1, h.cell hw L (Nat.lt_of_lt_of_le hk1 hn) (M k)]
  have := hP k q e
  rw [h.1] at this
  exact this
theorem WX.EFd {w w' : WT} (h : WX w w') {s : State} (hE : EF w s) : EF w' s := by
  obtain ⟨h1, h2, h3, h4, h5, -, -⟩ := id h
  unfold EF at hE ⊢
  unfold stB wTy at hE ⊢
  rw [h1, h2, h3, h4, h5, h.A]
  exact hE
theorem W_mono {p : Program} {l : Launch} {e : Env} {R : Room} {s : State} {m : MethodId} {args : Array Value} {below : List Frame} {meth : Method} {c : Code} {H : Heap} {locs : List Loc} {cells slots : Nat} {Q Q' : State → Prop} {g : JFrame} (hQ : ∀ t, Q' t → Q t) (k : W p l e R s m args below meth c H locs cells slots Q' g) : W p l e R s m args below meth c H locs cells slots Q g := by
  intro T hT X
  obtain ⟨t, a, b⟩ := k T hT X
  exact ⟨t, a, hQ t b⟩
theorem MQ_down {w w' : WT} (hw : WOK w) (h : WX w w') (hn : wN w ≤ 101) {below : List Frame} {r : Int32} {M : Mem} {L : Lng} {args : Array Value} {s t : State} {mc ms : Nat} (hq : MQ below (QI w' r M L) args s mc ms (wA w') t) : MQ below (QI w r M L) args s mc ms (wA w) t := by
  obtain ⟨o, h1, h2, ⟨⟨r1, u, h3, ⟨rfl, rfl⟩, h5⟩, h6⟩, h7⟩ := hq
  rw [h.A] at h6 h7
  exact ⟨o, h1, h2, ⟨⟨_, (M, L), h3, ⟨rfl, rfl⟩, h.picd hw.2.2 hn M L h5⟩, h6⟩, h7⟩
section RowsN
variable {w : WT} {p : Program} {l : Launch} {e : Env} {R : Room} {s : State} {m : MethodId} {args : Array Value} {below : List Frame} {meth : Method} {c : Code} {H : Heap} {locs : List Loc} {cells slots : Nat} {Q : State → Prop}
variable {cc : ByteArray} {nL pc : Nat} {own : String} {ret : Option FieldType} {ls : Array Slot} {rest : List Value} {M M' : Mem} {L L' : Lng}
theorem wI_of (hE : EF w s) : s.vm.findClass ("[" ++ FieldType.int.toString) = some (wI w) := (hE.1.2 0 _ rfl).2
theorem k_newa (C : KC w p s m args meth c cc nL own ret) (hP : va_P (wD w) vwCl (pic w M L) H) (hS : va_S (wA w) s.heap H locs) (harr : Cond.arrayClass .int ∈ BG) {n N : Nat} (hN : wN w = n) (hx : ∀ row, cellX w L n row = .inl (wI w, N, .inl row)) {v : Int32} (hv : ¬ v < 0) (hv2 : v.toNatClampNeg = N) (hb4 : N * 4 ≤ 536870912) (hcells : cells + 1 ≤ R.cells) (hslots : slots + N ≤ R.slots) (hn : n < 101) (hdg : decode cc pc = .ok (.newarray .int, 2))
    (kk : ∀ (q : Nat) (w' : WT) (H1 : Heap), KC w' p s m args meth c cc nL own ret → WX w w' → wAd w' n = q → wN w' = n + 1 → va_P (wD w') vwCl (pic w' (rset M n (fun _ => 0)) L) H1 → va_S (wA w') s.heap H1 locs → W p l e R s m args below meth c H1 locs (cells + 1) (slots + N) Q (F0 m (pc + 2) ls (.ref q :: rest))) :
    W p l e R s m args below meth c H locs cells slots Q (F0 m pc ls (.int v :: rest)) := by
  have hw : WOK w := C.2.2.2.2.2.2.2.2
  have hE : EF w s := C.2.2.2.2.2.2.2.1
  subst hN
  refine va_newa (atype := .int) (ty := .int) (a0 := (N, .inl (fun _ => 0))) C.1 C.2.1 (C.2.2.2.2.1 _ harr) rfl hE.1 hP (pic_D hw M L) hS (fun q hq => Nat.le_trans hE.2.1 hq) (fun _ => rfl) hv hv2 hb4 hcells hslots hdg (fun q cA H1 hK1 hP1 hD1 hS1 => ?_)
  have e1 : s.vm.findClass ("[" ++ FieldType.int.toString) = some cA := (hK1.2 2 _ rfl).2
  cases e1.symm.trans (wI_of hE)
  obtain ⟨w', hw'⟩ : ∃ w' : WT, w' = (w.1, w.2.1, fun k => if k = wN w then q else wAd w k, w.2.2.2.1, w.2.2.2.2.1, wN w + 1) := ⟨_, rfl⟩
  have a1 : wD w' = wD w := by rw [hw']; rfl
  have a2 : wI w' = wI w := by rw [hw']; rfl
  have a3 : wS w' = wS w := by rw [hw']; rfl
  have a4 : wSt w' = wSt w := by rw [hw']; rfl
  have a5 : wSz w' = wSz w := by rw [hw']; rfl
  have a6 : wN w' = wN w + 1 := by rw [hw']; rfl
  have a7 : ∀ k, k < wN w → wAd w' k = wAd w k := by
    intro k hk
    rw [hw']
    show (if k = wN w then q else wAd w k) = wAd w k
    rw [if_neg (Nat.ne_of_lt hk)]
  have a8 : wAd w' (wN w) = q := by
    rw [hw']
    show (if wN w = wN w then q else wAd w (wN w)) = q
    rw [if_pos rfl]
  have X : WX w w' := ⟨a1, a2, a3, a4, a5, by omega, a7⟩
  have h95 := hw.2.2
  have hlen : (pic w M L).length = wN w := by simp [pic]
  have hpic : pic w' (rset M (wN w) (fun _ => 0)) L = pic w M L ++ [(q, .inl (wI w, N, .inl (fun _ => 0)))] := by
    apply List.ext_getElem?
    intro i
    rcases Nat.lt_trichotomy i (wN w) with h | h | h
    · rw [List.getElem?_append_left (by omega)]
      simp [pic, a6, h, Nat.lt_succ_of_lt h, a7 i h, rset, Nat.ne_of_lt h, X.cell hw.2.2 L (Nat.lt_trans h hn) (M i)]
    · subst h
      rw [List.getElem?_append_right (by omega), hlen, Nat.sub_self]
      simp [pic, a6, a8, rset, X.cell hw.2.2 L hn, hx]
    · rw [List.getElem?_eq_none (by simp [pic]; omega), List.getElem?_eq_none (by simp [pic]; omega)]
  have hok : WOK w' := by
    have hadx : ∀ c, c < wN w' → ∃ x : Nat × va_E, (pic w M L ++ [(q, .inl (wI w, N, .inl (fun _ => 0)))])[c]? = some x ∧ x.1 = wAd w' c := by
      intro c hc
      rw [← hpic]
      exact ⟨_, by simp [pic, hc]; rfl, rfl⟩
    refine ⟨fun c hc => ?_, fun c d hc hd he => ?_, by omega⟩
    · obtain ⟨x, h1, h2⟩ := hadx c hc
      have h3 := hD1.2 c x h1
      rw [h2] at h3
      rw [a5]
      exact h3
    · obtain ⟨x, h1, h2⟩ := hadx c hc
      obtain ⟨y, h3, h4⟩ := hadx d hd
      exact hD1.1 c d x y h1 h3 (h2.trans (he.trans h4.symm))
  refine kk q w' H1 ⟨C.1, C.2.1, C.2.2.1, C.2.2.2.1, C.2.2.2.2.1, C.2.2.2.2.2.1, C.2.2.2.2.2.2.1, X.EFd hE, hok⟩ X a8 a6 ?_ ?_
  · rw [hpic, a1]
    exact hP1
  · rw [X.A]
    exact hS1
end RowsN
