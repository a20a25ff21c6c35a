/-! The frame of all contracts: one list of words, one world of 90 cells of the class and, as they come, the law's own rows; its content a function of cell and place. Written by wip/p26/gen. -/
def BG : List Cond := lw_tbl.filter goodWord
theorem bg_good : ∀ w ∈ BG, goodWord w = true := fun _ h => (List.mem_filter.mp h).2
theorem bg_in {w : Cond} (h : w ∈ lw_tbl) (g : goodWord w = true) : w ∈ BG := List.mem_filter.mpr ⟨h, g⟩
theorem bg_t {w : Cond} (i : Nat) (h : tables_1[i]? = some w) (g : goodWord w = true) : w ∈ BG := bg_in (List.mem_append_right _ (List.mem_of_getElem? h)) g
theorem bg_p {w : Cond} (i : Nat) (h : (k2_sels lw_privs)[i]? = some w) (g : goodWord w = true) : w ∈ BG := bg_in (List.mem_append_left _ (List.mem_of_getElem? h)) g
theorem bg_tbl : ∀ w ∈ BG, w ∈ lw_tbl := fun _ h => (List.mem_filter.mp h).1
theorem gB {y : MethodName} {b : ByteArray} {n : Nat} {r : Option FieldType} (h : Cond.code y b n r ∈ BG) : GoodIn BG (Cond.code y b n r :: BG) := by
  intro w hw
  rcases List.mem_cons.mp hw with rfl | hw
  · exact ⟨h, good_of_word (bg_good _ h)⟩
  · exact ⟨hw, good_of_word (bg_good _ hw)⟩
theorem gI {big : List Cond} {a : Cond} {ws : List Cond} (h : a ∈ big ∧ ((a.onTables && a.keeps) = true ∨ ∃ ty, a = .arrayClass ty)) (h2 : GoodIn big ws) : GoodIn big (a :: ws) := by
  intro w hw
  rcases List.mem_cons.mp hw with rfl | hw
  · exact h
  · exact h2 w hw
theorem gW {a : Cond} (h : a ∈ BG) : a ∈ BG ∧ ((a.onTables && a.keeps) = true ∨ ∃ ty, a = .arrayClass ty) := ⟨h, good_of_word (bg_good _ h)⟩
theorem gV {own C : String} {idx : Nat} {y : MethodName} {b : ByteArray} {n : Nat} {r : Option FieldType} (h1 : Cond.methodLink own idx y ∈ BG) (h2 : Cond.instanceMethod y ∈ BG) (h3 : Cond.selects C y y ∈ BG) (h4 : Cond.initialized C ∈ BG) (h5 : Cond.code y b n r ∈ BG) :
    GoodIn BG (wsV own idx C y (Cond.code y b n r :: BG)) := by
  unfold wsV
  exact gI (gW h1) (gI (gW h2) (gI (gW h3) (gI (gW h4) (gB h5))))
theorem gS {own : String} {idx : Nat} {y : MethodName} {b : ByteArray} {n : Nat} {r : Option FieldType} (h1 : Cond.methodLink own idx y ∈ BG) (h2 : Cond.static y ∈ BG) (h4 : Cond.initialized y.cls ∈ BG) (h5 : Cond.code y b n r ∈ BG) :
    GoodIn BG (va_wsS own idx y (Cond.code y b n r :: BG)) := by
  unfold va_wsS
  exact gI (gW h1) (gI (gW h2) (gI (gW h4) (gB h5)))
/-! the world -/
abbrev Mem : Type := Nat → Nat → Int32
abbrev Lng : Type := Nat → Int64
def rset (M : Mem) (c : Nat) (f : Nat → Int32) : Mem := fun c' => if c' = c then f else M c'
def mset (M : Mem) (c k : Nat) (v : Int32) : Mem := rset M c (upd (M c) k v)
abbrev WT : Type := va_G × (ClassId × ClassId) × (Nat → Nat) × (Nat → Nat) × Nat × Nat
def wD (w : WT) : va_G := w.1
def wI (w : WT) : ClassId := w.2.1.1
def wS (w : WT) : ClassId := w.2.1.2
def wAd (w : WT) : Nat → Nat := w.2.2.1
def wSt (w : WT) : Nat → Nat := w.2.2.2.1
def wSz (w : WT) : Nat := w.2.2.2.2.1
/-- how many cells there are -/
def wN (w : WT) : Nat := w.2.2.2.2.2
def wA (w : WT) : Nat → Prop := fun q => wSz w ≤ q
def wTy (w : WT) : List (ClassId × FieldType) := [(wI w, .int), (wS w, .object "NoisePost$State")]

def lenX : List Nat := [0, 0, 200, 200, 10, 20, 0, 200, 200, 10, 20, 0, 200, 200, 10, 20, 0, 200, 200, 10, 20, 0, 200, 200, 10, 20, 0, 200, 200, 10, 20, 0, 200, 200, 10, 20, 0, 200, 200, 10, 20, 0, 200, 200, 10, 20, 0, 0, 0, 60, 30, 30, 30, 3, 0, 10, 0, 200, 200, 200, 0, 100, 100, 100, 100, 100, 200, 0, 20, 100, 20, 0, 10, 0, 200, 200, 200, 0, 100, 100, 100, 100, 100, 200, 0, 20, 100, 20, 0, 141, 60, 60, 6, 2, 10, 60, 60, 60, 60, 6, 6]
def fs_NoisePost (w : WT) : List Value := [.ref (wAd w 1), .ref (wAd w 46), .ref (wAd w 48), .ref (wAd w 54), .ref (wAd w 71), .ref (wAd w 88)]
def fs_State (w : WT) (b : Nat) (row : Nat → Int32) : List Value := [.ref (wAd w (b + 1)), .ref (wAd w (b + 2)), .ref (wAd w (b + 3)), .ref (wAd w (b + 4)), .int (row 4), .int (row 5)]
def fs_History (w : WT) (b : Nat) (row : Nat → Int32) : List Value := [.ref (wAd w (b + 1)), .int (row 1), .int (row 2)]
def fs_Text (w : WT) (b : Nat) (row : Nat → Int32) : List Value := [.ref (wAd w (b + 1)), .int (row 1), .ref (wAd w (b + 2)), .ref (wAd w (b + 3)), .ref (wAd w (b + 4)), .int (row 5), .ref (wAd w (b + 5)), .int (row 7)]
def fs_View (w : WT) (b : Nat) (row : Nat → Int32) : List Value := [.ref (wAd w (b + 1)), .ref (wAd w (b + 2)), .ref (wAd w (b + 6)), .ref (wAd w (b + 13))]
def fs_Minutes (w : WT) (b : Nat) (row : Nat → Int32) : List Value := [.ref (wAd w (b + 1)), .ref (wAd w (b + 2)), .ref (wAd w (b + 3)), .int (row 3), .int (row 4), .int (row 5), .int (row 6), .int (row 7)]
def fs_Exceedances (w : WT) (b : Nat) (row : Nat → Int32) : List Value := [.ref (wAd w (b + 1)), .ref (wAd w (b + 2)), .ref (wAd w (b + 3)), .ref (wAd w (b + 4)), .ref (wAd w (b + 5)), .ref (wAd w (b + 6)), .int (row 6), .int (row 7)]
def fs_Matches (w : WT) (b : Nat) (row : Nat → Int32) : List Value := [.ref (wAd w (b + 1)), .ref (wAd w (b + 2)), .ref (wAd w (b + 3)), .int (row 3), .int (row 4)]
def fs_LevelCounts (w : WT) (b : Nat) (row : Nat → Int32) : List Value := [.ref (wAd w (b + 1))]
def ringX (w : WT) : Nat → Option Nat := fun i => if i < 8 then some (wAd w (6 + 5 * i)) else none
def objX (w : WT) (L : Lng) (c : Nat) (row : Nat → Int32) : va_E :=
  if c = 0 then .inr (8, fs_NoisePost w)
  else if c = 46 then .inr (1, fs_History w c row)
  else if c = 47 then .inl (wS w, 8, .inr (.inr (.inr (.inr (ringX w)))))
  else if c = 48 then .inr (6, fs_Text w c row)
  else if c = 54 ∨ c = 71 then .inr (7, fs_View w c row)
  else if c = 56 ∨ c = 73 then .inr (4, fs_Minutes w c row)
  else if c = 60 ∨ c = 77 then .inr (0, fs_Exceedances w c row)
  else if c = 67 ∨ c = 84 then .inr (3, fs_Matches w c row)
  else if c = 88 then .inr (2, fs_LevelCounts w c row)
  else .inr (5, fs_State w c row)
def cellX (w : WT) (L : Lng) (c : Nat) (row : Nat → Int32) : va_E := if lenX.getD c 0 = 0 then objX w L c row else .inl (wI w, lenX.getD c 0, .inl row)
def pic (w : WT) (M : Mem) (L : Lng) : va_W := (List.range (wN w)).map (fun c => (wAd w c, cellX w L c (M c)))
theorem pic_at {w : WT} {M : Mem} {L : Lng} {c : Nat} {e : va_E} (h : c < wN w) (he : cellX w L c (M c) = e) : (pic w M L)[c]? = some (wAd w c, e) := by
  subst he
  simp [pic, h]
theorem pic_set {w : WT} {M : Mem} {L : Lng} {c : Nat} {e : va_E} (row : Nat → Int32) (h : c < wN w) (he : cellX w L c row = e) : (pic w M L).set c (wAd w c, e) = pic w (rset M c row) L := by
  subst he
  apply List.ext_getElem?
  intro i
  by_cases hi : i < wN w
  · by_cases hc : c = i
    · subst hc
      rw [List.getElem?_set_self (by simpa [pic] using hi)]
      simp [pic, hi, rset]
    · rw [List.getElem?_set_ne hc]
      simp [pic, hi, rset, Ne.symm hc]
  · rw [List.getElem?_eq_none (by simp [pic]; omega), List.getElem?_eq_none (by simp [pic]; omega)]
/-- the law's own cells, apart and made behind its start -/
def WOK (w : WT) : Prop := (∀ c, c < wN w → wSz w ≤ wAd w c) ∧ (∀ c d, c < wN w → d < wN w → wAd w c = wAd w d → c = d) ∧ 95 ≤ wN w
theorem C9w {w : WT} (h : WOK w) {c : Nat} (hc : c < 95) : c < wN w := Nat.lt_of_lt_of_le hc h.2.2
theorem pic_D {w : WT} (h : WOK w) (M : Mem) (L : Lng) : va_D (wA w) (pic w M L) := by
  have key : ∀ (i : Nat) (p : Nat × va_E), (pic w M L)[i]? = some p → i < wN w ∧ p.1 = wAd w i := by
    intro i p hp
    have hi : i < wN w := by
      have := (List.getElem?_eq_some_iff.mp hp).1
      simpa [pic] using this
    simp [pic, hi] at hp
    exact ⟨hi, by rw [← hp]⟩
  refine ⟨fun i j p q hp hq hpq => ?_, fun k q hq => ?_⟩
  · obtain ⟨h1, e1⟩ := key i p hp
    obtain ⟨h2, e2⟩ := key j q hq
    exact h.2.1 i j h1 h2 (by rw [← e1, ← e2, hpq])
  · obtain ⟨h1, e1⟩ := key k q hq
    rw [e1]
    exact h.1 k h1

def isNp (b : Nat) : Prop := b = 0
def isSt (b : Nat) : Prop := b = 1 ∨ b = 6 ∨ b = 11 ∨ b = 16 ∨ b = 21 ∨ b = 26 ∨ b = 31 ∨ b = 36 ∨ b = 41
def isHi (b : Nat) : Prop := b = 46
def isTx (b : Nat) : Prop := b = 48
def isVw (b : Nat) : Prop := b = 54 ∨ b = 71
def isMn (b : Nat) : Prop := b = 56 ∨ b = 73
def isEx (b : Nat) : Prop := b = 60 ∨ b = 77
def isMt (b : Nat) : Prop := b = 67 ∨ b = 84
def isLc (b : Nat) : Prop := b = 88
theorem ob_NoisePost {b : Nat} (h : isNp b) (w : WT) (L : Lng) (row : Nat → Int32) : cellX w L b row = .inr (8, fs_NoisePost w) := by
  rcases h with rfl <;> rfl
theorem lt_NoisePost {b : Nat} (h : isNp b) : b < 95 := by unfold isNp at h; omega
theorem to_NoisePost_state : isSt 1 := by unfold isSt; omega
theorem to_NoisePost_history : isHi 46 := by unfold isHi; omega
theorem to_NoisePost_text : isTx 48 := by unfold isTx; omega
theorem to_NoisePost_now : isVw 54 := by unfold isVw; omega
theorem to_NoisePost_tried : isVw 71 := by unfold isVw; omega
theorem to_NoisePost_levelCounts : isLc 88 := by unfold isLc; omega
theorem ob_State {b : Nat} (h : isSt b) (w : WT) (L : Lng) (row : Nat → Int32) : cellX w L b row = .inr (5, fs_State w b row) := by
  rcases h with rfl | rfl | rfl | rfl | rfl | rfl | rfl | rfl | rfl <;> rfl
theorem lt_State {b : Nat} (h : isSt b) : b < 95 := by unfold isSt at h; omega
theorem ar_State_levels {b : Nat} (h : isSt b) (w : WT) (L : Lng) (row : Nat → Int32) : cellX w L (b + 1) row = .inl (wI w, 200, .inl row) := by
  rcases h with rfl | rfl | rfl | rfl | rfl | rfl | rfl | rfl | rfl <;> rfl
theorem la_State_levels {b : Nat} (h : isSt b) : b + 1 < 95 := by unfold isSt at h; omega
theorem ar_State_winds {b : Nat} (h : isSt b) (w : WT) (L : Lng) (row : Nat → Int32) : cellX w L (b + 2) row = .inl (wI w, 200, .inl row) := by
  rcases h with rfl | rfl | rfl | rfl | rfl | rfl | rfl | rfl | rfl <;> rfl
theorem la_State_winds {b : Nat} (h : isSt b) : b + 2 < 95 := by unfold isSt at h; omega
theorem ar_State_settings {b : Nat} (h : isSt b) (w : WT) (L : Lng) (row : Nat → Int32) : cellX w L (b + 3) row = .inl (wI w, 10, .inl row) := by
  rcases h with rfl | rfl | rfl | rfl | rfl | rfl | rfl | rfl | rfl <;> rfl
theorem la_State_settings {b : Nat} (h : isSt b) : b + 3 < 95 := by unfold isSt at h; omega
theorem ar_State_complaintMinutes {b : Nat} (h : isSt b) (w : WT) (L : Lng) (row : Nat → Int32) : cellX w L (b + 4) row = .inl (wI w, 20, .inl row) := by
  rcases h with rfl | rfl | rfl | rfl | rfl | rfl | rfl | rfl | rfl <;> rfl
theorem la_State_complaintMinutes {b : Nat} (h : isSt b) : b + 4 < 95 := by unfold isSt at h; omega
theorem ob_History {b : Nat} (h : isHi b) (w : WT) (L : Lng) (row : Nat → Int32) : cellX w L b row = .inr (1, fs_History w b row) := by
  rcases h with rfl <;> rfl
theorem lt_History {b : Nat} (h : isHi b) : b < 95 := by unfold isHi at h; omega
theorem ob_Text {b : Nat} (h : isTx b) (w : WT) (L : Lng) (row : Nat → Int32) : cellX w L b row = .inr (6, fs_Text w b row) := by
  rcases h with rfl <;> rfl
theorem lt_Text {b : Nat} (h : isTx b) : b < 95 := by unfold isTx at h; omega
theorem ar_Text_codes {b : Nat} (h : isTx b) (w : WT) (L : Lng) (row : Nat → Int32) : cellX w L (b + 1) row = .inl (wI w, 60, .inl row) := by
  rcases h with rfl <;> rfl
theorem la_Text_codes {b : Nat} (h : isTx b) : b + 1 < 95 := by unfold isTx at h; omega
theorem ar_Text_levels {b : Nat} (h : isTx b) (w : WT) (L : Lng) (row : Nat → Int32) : cellX w L (b + 2) row = .inl (wI w, 30, .inl row) := by
  rcases h with rfl <;> rfl
theorem la_Text_levels {b : Nat} (h : isTx b) : b + 2 < 95 := by unfold isTx at h; omega
theorem ar_Text_winds {b : Nat} (h : isTx b) (w : WT) (L : Lng) (row : Nat → Int32) : cellX w L (b + 3) row = .inl (wI w, 30, .inl row) := by
  rcases h with rfl <;> rfl
theorem la_Text_winds {b : Nat} (h : isTx b) : b + 3 < 95 := by unfold isTx at h; omega
theorem ar_Text_times {b : Nat} (h : isTx b) (w : WT) (L : Lng) (row : Nat → Int32) : cellX w L (b + 4) row = .inl (wI w, 30, .inl row) := by
  rcases h with rfl <;> rfl
theorem la_Text_times {b : Nat} (h : isTx b) : b + 4 < 95 := by unfold isTx at h; omega
theorem ar_Text_numbers {b : Nat} (h : isTx b) (w : WT) (L : Lng) (row : Nat → Int32) : cellX w L (b + 5) row = .inl (wI w, 3, .inl row) := by
  rcases h with rfl <;> rfl
theorem la_Text_numbers {b : Nat} (h : isTx b) : b + 5 < 95 := by unfold isTx at h; omega
theorem ob_View {b : Nat} (h : isVw b) (w : WT) (L : Lng) (row : Nat → Int32) : cellX w L b row = .inr (7, fs_View w b row) := by
  rcases h with rfl | rfl <;> rfl
theorem lt_View {b : Nat} (h : isVw b) : b < 95 := by unfold isVw at h; omega
theorem ar_View_settings {b : Nat} (h : isVw b) (w : WT) (L : Lng) (row : Nat → Int32) : cellX w L (b + 1) row = .inl (wI w, 10, .inl row) := by
  rcases h with rfl | rfl <;> rfl
theorem la_View_settings {b : Nat} (h : isVw b) : b + 1 < 95 := by unfold isVw at h; omega
theorem to_View_minutes {b : Nat} (h : isVw b) : isMn (b + 2) := by unfold isVw at h; unfold isMn; omega
theorem to_View_exceedances {b : Nat} (h : isVw b) : isEx (b + 6) := by unfold isVw at h; unfold isEx; omega
theorem to_View_matches {b : Nat} (h : isVw b) : isMt (b + 13) := by unfold isVw at h; unfold isMt; omega
theorem ob_Minutes {b : Nat} (h : isMn b) (w : WT) (L : Lng) (row : Nat → Int32) : cellX w L b row = .inr (4, fs_Minutes w b row) := by
  rcases h with rfl | rfl <;> rfl
theorem lt_Minutes {b : Nat} (h : isMn b) : b < 95 := by unfold isMn at h; omega
theorem ar_Minutes_fast {b : Nat} (h : isMn b) (w : WT) (L : Lng) (row : Nat → Int32) : cellX w L (b + 1) row = .inl (wI w, 200, .inl row) := by
  rcases h with rfl | rfl <;> rfl
theorem la_Minutes_fast {b : Nat} (h : isMn b) : b + 1 < 95 := by unfold isMn at h; omega
theorem ar_Minutes_slow {b : Nat} (h : isMn b) (w : WT) (L : Lng) (row : Nat → Int32) : cellX w L (b + 2) row = .inl (wI w, 200, .inl row) := by
  rcases h with rfl | rfl <;> rfl
theorem la_Minutes_slow {b : Nat} (h : isMn b) : b + 2 < 95 := by unfold isMn at h; omega
theorem ar_Minutes_why {b : Nat} (h : isMn b) (w : WT) (L : Lng) (row : Nat → Int32) : cellX w L (b + 3) row = .inl (wI w, 200, .inl row) := by
  rcases h with rfl | rfl <;> rfl
theorem la_Minutes_why {b : Nat} (h : isMn b) : b + 3 < 95 := by unfold isMn at h; omega
theorem ob_Exceedances {b : Nat} (h : isEx b) (w : WT) (L : Lng) (row : Nat → Int32) : cellX w L b row = .inr (0, fs_Exceedances w b row) := by
  rcases h with rfl | rfl <;> rfl
theorem lt_Exceedances {b : Nat} (h : isEx b) : b < 95 := by unfold isEx at h; omega
theorem ar_Exceedances_begins {b : Nat} (h : isEx b) (w : WT) (L : Lng) (row : Nat → Int32) : cellX w L (b + 1) row = .inl (wI w, 100, .inl row) := by
  rcases h with rfl | rfl <;> rfl
theorem la_Exceedances_begins {b : Nat} (h : isEx b) : b + 1 < 95 := by unfold isEx at h; omega
theorem ar_Exceedances_ends {b : Nat} (h : isEx b) (w : WT) (L : Lng) (row : Nat → Int32) : cellX w L (b + 2) row = .inl (wI w, 100, .inl row) := by
  rcases h with rfl | rfl <;> rfl
theorem la_Exceedances_ends {b : Nat} (h : isEx b) : b + 2 < 95 := by unfold isEx at h; omega
theorem ar_Exceedances_aboves {b : Nat} (h : isEx b) (w : WT) (L : Lng) (row : Nat → Int32) : cellX w L (b + 3) row = .inl (wI w, 100, .inl row) := by
  rcases h with rfl | rfl <;> rfl
theorem la_Exceedances_aboves {b : Nat} (h : isEx b) : b + 3 < 95 := by unfold isEx at h; omega
theorem ar_Exceedances_peaks {b : Nat} (h : isEx b) (w : WT) (L : Lng) (row : Nat → Int32) : cellX w L (b + 4) row = .inl (wI w, 100, .inl row) := by
  rcases h with rfl | rfl <;> rfl
theorem la_Exceedances_peaks {b : Nat} (h : isEx b) : b + 4 < 95 := by unfold isEx at h; omega
theorem ar_Exceedances_weights {b : Nat} (h : isEx b) (w : WT) (L : Lng) (row : Nat → Int32) : cellX w L (b + 5) row = .inl (wI w, 100, .inl row) := by
  rcases h with rfl | rfl <;> rfl
theorem la_Exceedances_weights {b : Nat} (h : isEx b) : b + 5 < 95 := by unfold isEx at h; omega
theorem ar_Exceedances_ownerOf {b : Nat} (h : isEx b) (w : WT) (L : Lng) (row : Nat → Int32) : cellX w L (b + 6) row = .inl (wI w, 200, .inl row) := by
  rcases h with rfl | rfl <;> rfl
theorem la_Exceedances_ownerOf {b : Nat} (h : isEx b) : b + 6 < 95 := by unfold isEx at h; omega
theorem ob_Matches {b : Nat} (h : isMt b) (w : WT) (L : Lng) (row : Nat → Int32) : cellX w L b row = .inr (3, fs_Matches w b row) := by
  rcases h with rfl | rfl <;> rfl
theorem lt_Matches {b : Nat} (h : isMt b) : b < 95 := by unfold isMt at h; omega
theorem ar_Matches_exceedanceOf {b : Nat} (h : isMt b) (w : WT) (L : Lng) (row : Nat → Int32) : cellX w L (b + 1) row = .inl (wI w, 20, .inl row) := by
  rcases h with rfl | rfl <;> rfl
theorem la_Matches_exceedanceOf {b : Nat} (h : isMt b) : b + 1 < 95 := by unfold isMt at h; omega
theorem ar_Matches_complaintOf {b : Nat} (h : isMt b) (w : WT) (L : Lng) (row : Nat → Int32) : cellX w L (b + 2) row = .inl (wI w, 100, .inl row) := by
  rcases h with rfl | rfl <;> rfl
theorem la_Matches_complaintOf {b : Nat} (h : isMt b) : b + 2 < 95 := by unfold isMt at h; omega
theorem ar_Matches_order {b : Nat} (h : isMt b) (w : WT) (L : Lng) (row : Nat → Int32) : cellX w L (b + 3) row = .inl (wI w, 20, .inl row) := by
  rcases h with rfl | rfl <;> rfl
theorem la_Matches_order {b : Nat} (h : isMt b) : b + 3 < 95 := by unfold isMt at h; omega
theorem ob_LevelCounts {b : Nat} (h : isLc b) (w : WT) (L : Lng) (row : Nat → Int32) : cellX w L b row = .inr (2, fs_LevelCounts w b row) := by
  rcases h with rfl <;> rfl
theorem lt_LevelCounts {b : Nat} (h : isLc b) : b < 95 := by unfold isLc at h; omega
theorem ar_LevelCounts_reached {b : Nat} (h : isLc b) (w : WT) (L : Lng) (row : Nat → Int32) : cellX w L (b + 1) row = .inl (wI w, 141, .inl row) := by
  rcases h with rfl <;> rfl
theorem la_LevelCounts_reached {b : Nat} (h : isLc b) : b + 1 < 95 := by unfold isLc at h; omega
def isS (b : Nat) : Prop := b = 4 ∨ b = 55 ∨ b = 72
theorem ar_S {b : Nat} (h : isS b) (w : WT) (L : Lng) (row : Nat → Int32) : cellX w L b row = .inl (wI w, 10, .inl row) := by
  rcases h with rfl | rfl | rfl <;> rfl
theorem la_S {b : Nat} (h : isS b) : b < 95 := by unfold isS at h; omega
theorem s_View {b : Nat} (h : isVw b) : isS (b + 1) := by unfold isVw at h; unfold isS; omega
theorem s_St : isS 4 := by unfold isS; omega
theorem h0_NoisePost : isNp 0 := rfl
theorem h0_History : isHi 46 := rfl
theorem h0_Text : isTx 48 := rfl
theorem h0_LevelCounts : isLc 88 := rfl
theorem ar_L90 (w : WT) (L : Lng) (row : Nat → Int32) : cellX w L 90 row = .inl (wI w, 60, .inl row) := rfl
theorem ar_L91 (w : WT) (L : Lng) (row : Nat → Int32) : cellX w L 91 row = .inl (wI w, 60, .inl row) := rfl
theorem ar_L92 (w : WT) (L : Lng) (row : Nat → Int32) : cellX w L 92 row = .inl (wI w, 6, .inl row) := rfl
theorem ar_L93 (w : WT) (L : Lng) (row : Nat → Int32) : cellX w L 93 row = .inl (wI w, 2, .inl row) := rfl
theorem ar_L94 (w : WT) (L : Lng) (row : Nat → Int32) : cellX w L 94 row = .inl (wI w, 10, .inl row) := rfl
theorem ar_L95 (w : WT) (L : Lng) (row : Nat → Int32) : cellX w L 95 row = .inl (wI w, 60, .inl row) := rfl
theorem ar_L96 (w : WT) (L : Lng) (row : Nat → Int32) : cellX w L 96 row = .inl (wI w, 60, .inl row) := rfl
theorem ar_L97 (w : WT) (L : Lng) (row : Nat → Int32) : cellX w L 97 row = .inl (wI w, 60, .inl row) := rfl
theorem ar_L98 (w : WT) (L : Lng) (row : Nat → Int32) : cellX w L 98 row = .inl (wI w, 60, .inl row) := rfl
theorem ar_L99 (w : WT) (L : Lng) (row : Nat → Int32) : cellX w L 99 row = .inl (wI w, 6, .inl row) := rfl
theorem ar_L100 (w : WT) (L : Lng) (row : Nat → Int32) : cellX w L 100 row = .inl (wI w, 6, .inl row) := rfl
def isMa (b : Nat) : Prop := b = 99 ∨ b = 100
theorem ar_Ma {b : Nat} (h : isMa b) (w : WT) (L : Lng) (row : Nat → Int32) : cellX w L b row = .inl (wI w, 6, .inl row) := by
  rcases h with rfl | rfl <;> rfl
/-! what the environment gives: the classes, the nest's words, the static rows -/
def SNm : Nat → String := fun k => ["SETTING_LEAST", "SETTING_MOST", "SETTING_AT_FIRST"].getD k ""
def SLn : Nat → Nat := fun k => [10, 10, 10].getD k 0
def STb : Nat → Nat → Int32 := fun k j => ([[0, 0, 0, 0, 1, 0, 1, 0, 1, 1], [140, 140, 59, 60, 41, 20, 20, 60, 20, 50], [70, 60, 40, 20, 15, 2, 3, 10, 2, 8]].getD k []).getD j 0
def NWL : List Cond := [.methodLinkNest RX8 25 yX6_init RX8, .methodLinkNest RX8 32 yX7_init RX8, .methodLinkNest RX8 42 yX2_init RX8, .methodLinkNest RX8 9 yX5_init RX8, .methodLinkNest RX0 49 yX8_limitAt RX8, .methodLinkNest RX1 17 yX5_init RX8, .methodLinkNest RX4 36 yX8_moved RX8, .methodLinkNest RX4 47 yX8_limitAt RX8, .methodLinkNest RX4 64 yX8_isRest RX8, .methodLinkNest RX7 114 yX8_isRest RX8, .methodLinkNest RX7 124 yX8_moved RX8, .methodLinkNest RX7 131 yX8_limitAt RX8, .methodLinkNest RX7 25 yX4_init RX8, .methodLinkNest RX7 32 yX0_init RX8, .methodLinkNest RX7 39 yX3_init RX8, .fieldLinkNest RX5 18 RX8 "SETTING_AT_FIRST" "[I" RX8, .fieldLinkNest RX7 9 RX8 "SETTING_AT_FIRST" "[I" RX8]
def stB (w : WT) (U : State) (H : Heap) : Prop := ∀ k, k < 3 → va_Z RX8 (SNm k) "[I" (.ref (wSt w k)) (wA w) U H ∧ va_T .int (wSt w k) (SLn k) (fun j => .int (STb k j)) (wA w) U H
def EF (w : WT) (U : State) : Prop := va_K (wD w) vwCl (wTy w) U ∧ wSz w ≤ U.heap.size ∧ (∀ x ∈ NWL, va_Nw x U) ∧ stB w U U.heap
theorem nw_warm {s U : State} (hW : s.WarmedH U.vm) (h : ∀ x ∈ NWL, va_Nw x s) : ∀ x ∈ NWL, va_Nw x U := by
  unfold NWL at h ⊢
  simp only [List.forall_mem_cons] at h ⊢
  obtain ⟨h1, h2, h3, h4, h5, h6, h7, h8, h9, h10, h11, h12, h13, h14, h15, h16, h17, -⟩ := h
  exact ⟨h1.warmM hW, h2.warmM hW, h3.warmM hW, h4.warmM hW, h5.warmM hW, h6.warmM hW, h7.warmM hW, h8.warmM hW, h9.warmM hW, h10.warmM hW, h11.warmM hW, h12.warmM hW, h13.warmM hW, h14.warmM hW, h15.warmM hW, h16.warmF hW, h17.warmF hW, fun _ h => nomatch h⟩
theorem nw_same {s U : State} (hv : s.vm = U.vm) (h : ∀ x ∈ NWL, va_Nw x s) : ∀ x ∈ NWL, va_Nw x U := by
  have ho : ∀ x ∈ NWL, x.onTables = true := List.all_eq_true.mp (by decide +kernel : NWL.all (fun x => x.onTables) = true)
  exact fun x hx => (h x hx).same (ho x hx) hv
theorem stB.kept {w : WT} {s U : State} {H H1 : Heap} (h : stB w s H) (hvm : s.vm.Alike U.vm) (hq : ∀ a : Nat, a < H.size → ¬ wA w a → H1[a]? = H[a]?) : stB w U H1 :=
  fun k hk => ⟨((h k hk).1.kept hq).moved hvm, ((h k hk).2.kept hq).moved hvm⟩
theorem EF.warm {w : WT} {s U : State} {locs : List Loc} (h : EF w s) (hW : s.WarmedH U.vm) (hS : va_S (wA w) s.heap U.heap locs) : EF w U :=
  ⟨va_K.moved hW.alike h.1, Nat.le_trans h.2.1 hS.1, nw_warm hW h.2.2.1, h.2.2.2.kept hW.alike hS.2.1⟩
theorem EF.same {w : WT} {s U : State} (h : EF w s) (hv : s.vm = U.vm) (hh : s.heap = U.heap) : EF w U := by
  have ha : s.vm.Alike U.vm := by rw [hv]; exact Vm.Alike.refl _
  refine ⟨va_K.moved ha h.1, by rw [← hh]; exact h.2.1, nw_same hv h.2.2.1, ?_⟩
  rw [← hh]
  exact h.2.2.2.kept ha (fun _ _ _ => rfl)
def PRE (w : WT) (av : List Value) (M : Mem) (L : Lng) : Array Value → State → Prop := va_Pc av (fun U => EF w U ∧ va_P (wD w) vwCl (pic w M L) U.heap)
theorem blindPRE (w : WT) (av : List Value) (M : Mem) (L : Lng) : FrameBlind (PRE w av M L) := by
  intro a U g mk h
  exact ⟨h.1, h.2.1.same rfl rfl, h.2.2⟩
def PW (w : WT) (u : Mem × Lng) (t : State) : Prop := va_P (wD w) vwCl (pic w u.1 u.2) t.heap
def QI (w : WT) (r : Int32) (M : Mem) (L : Lng) : Array Value → State → Outcome → State → Prop := va_Qi (fun (r' : Int32) (u : Mem × Lng) => r' = r ∧ u = (M, L)) (PW w) (wA w)
def QL (w : WT) (r : Int64) (M : Mem) (L : Lng) : Array Value → State → Outcome → State → Prop := va_Ql (fun (r' : Int64) (u : Mem × Lng) => r' = r ∧ u = (M, L)) (PW w) (wA w)
def QD (w : WT) (r : UInt64) (M : Mem) (L : Lng) : Array Value → State → Outcome → State → Prop := va_Qd (fun (r' : UInt64) (u : Mem × Lng) => r' = r ∧ u = (M, L)) (PW w) (wA w)
def QV (w : WT) (M : Mem) (L : Lng) : Array Value → State → Outcome → State → Prop := va_Qv (fun (u : Mem × Lng) => u = (M, L)) (PW w) (wA w)
/-! what a method does, as a function: none where the machine would throw -/
def rd (M : Mem) (c n : Nat) (i : Int32) : Option Int32 := if i < 0 ∨ n ≤ i.toNatClampNeg then none else some (M c i.toNatClampNeg)
def wr (M : Mem) (c n : Nat) (i v : Int32) : Option Mem := if i < 0 ∨ n ≤ i.toNatClampNeg then none else some (mset M c i.toNatClampNeg v)
def stf (M : Mem) (c k : Nat) (v : Int32) : Option Mem := some (mset M c k v)
def stz (M : Mem) (c k : Nat) (v : Int32) : Option Mem := if v = 0 ∨ v = 1 then some (mset M c k v) else none
def bz (v : Int32) : Option Int32 := if v = 0 ∨ v = 1 then some v else none
def dvI (a b : Int32) : Option Int32 := if b = 0 then none else some (a / b)
def rmI (a b : Int32) : Option Int32 := if b = 0 then none else some (a - a / b * b)
def rdS (k : Nat) (i : Int32) : Option Int32 := if i < 0 ∨ SLn k ≤ i.toNatClampNeg then none else some (STb k i.toNatClampNeg)
def cpy (M : Mem) (a na : Nat) (sp : Int32) (b nb : Nat) (dp n : Int32) : Option Mem := if sp < 0 ∨ dp < 0 ∨ n < 0 ∨ na < sp.toNatClampNeg + n.toNatClampNeg ∨ nb < dp.toNatClampNeg + n.toNatClampNeg then none else some (rset M b (va_cpy (M a) (M b) sp.toNatClampNeg dp.toNatClampNeg n.toNatClampNeg))
def ddv (a b : UInt64) : Option UInt64 := if FP.ddiv a b &&& 0x7fffffffffffffff ≤ 0x7ff0000000000000 then some (FP.ddiv a b) else none
def dml (a b : UInt64) : Option UInt64 := if FP.dmul a b &&& 0x7fffffffffffffff ≤ 0x7ff0000000000000 then some (FP.dmul a b) else none
def dsb (a b : UInt64) : Option UInt64 := if FP.dsub a b &&& 0x7fffffffffffffff ≤ 0x7ff0000000000000 then some (FP.dsub a b) else none
def mxI (x y : Int32) : Int32 := if x < y then y else x
def mnI (x y : Int32) : Int32 := if y < x then y else x
def rgI (i : Int32) : Option Nat := if i < 0 ∨ 8 ≤ i.toNatClampNeg then none else some i.toNatClampNeg
def stL (L : Lng) (v : Int64) : Option Lng := some (fun k => if k = 0 then v else L k)
theorem bz0 : bz 0 = some 0 := rfl
theorem bz1 : bz 1 = some 1 := rfl
theorem ne_ti {x k : Int32} {n : Int} (h : ¬ x = k) (hk : k.toInt = n) : x.toInt ≠ n := fun e => h (Int32.toInt_inj.mp (e.trans hk.symm))
theorem rg_lt {i : Int32} {k : Nat} (h : rgI i = some k) : k < 8 := by
  unfold rgI at h
  split at h
  · cases h
  · rename_i hn
    cases h
    omega
theorem rg_eq {i : Int32} {k : Nat} (h : rgI i = some k) : i = nI k := by
  unfold rgI at h
  split at h
  · cases h
  · rename_i hn
    cases h
    obtain ⟨j, hj, rfl⟩ := nI_of (x := i) (fun q => hn (Or.inl q))
    rw [nI_clamp hj]
theorem rg_st {i : Int32} {k : Nat} (h : rgI i = some k) : isSt (6 + 5 * k) := by
  have := rg_lt h
  unfold isSt
  omega
def loopN {σ ρ : Type} (body : σ → Option (σ ⊕ ρ)) : Nat → σ → Option ρ
  | 0, _ => none
  | n + 1, s => match body s with
    | none => none
    | some (.inl s') => loopN body n s'
    | some (.inr r) => some r
def FU : Nat := 20000
theorem ob {α β : Type} {x : Option α} {f : α → Option β} {b : β} (h : x.bind f = some b) : ∃ a, x = some a ∧ f a = some b := Option.bind_eq_some_iff.mp h
theorem loop_at {σ ρ : Type} {body : σ → Option (σ ⊕ ρ)} {A : σ → Prop} {E : ρ → Prop}
    (hs : ∀ s o, body s = some o → (∀ s', o = .inl s' → A s') → (∀ r, o = .inr r → E r) → A s) : ∀ (n : Nat) (s : σ) (r : ρ), loopN body n s = some r → E r → A s := by
  intro n
  induction n with
  | zero => intro s r h; cases h
  | succ n ih =>
    intro s r h hE
    unfold loopN at h
    cases hb : body s with
    | none => rw [hb] at h; cases h
    | some o =>
      rw [hb] at h
      cases o with
      | inl s' => exact hs s _ hb (fun s2 e => by cases e; exact ih s' r h hE) (fun r2 e => by cases e)
      | inr r' =>
        cases h
        exact hs s _ hb (fun s2 e => by cases e) (fun r2 e => by cases e; exact hE)
theorem ofWF {l : Launch} {y : MethodName} {ws ws' : List Cond} {rm : Room} {Pc : Array Value → State → Prop} {Qc : Array Value → State → Outcome → State → Prop} {mc ms : Nat} {free : Addr → Prop} {cc : ByteArray} {maxL : Nat} {ret : Option FieldType}
    (hy : plainFor y = true) (hw : ws = Cond.code y cc maxL ret :: ws')
    (body : ∀ p e s m args below meth c s₁, BodyLoose p l y (headSpec ws rm) cc maxL ret e s m args below meth c s₁ → c.maxLocals = maxL → Pc args s →
      W p l e (headSpec ws rm).room s m args below meth c s.heap [] 0 0 (MQ below Qc args s mc ms free) (entryFrame m args maxL)) : Met l y ws rm Pc Qc mc ms free := by
  refine MetFree.of_bodySF (code := cc) (maxLocals := maxL) (ret := ret) hy ?_ ?_
  · intro args s m h hn
    obtain ⟨meth, c, h1, h2, h3, h4, h5, h6, -, -⟩ := Cond.code_spec hn (atoms_spec (ws := ws) h _ (by rw [hw]; exact List.mem_cons_self))
    exact ⟨meth, c, h1, h2, h3, h4, h5, h6⟩
  · intro p e s m args below meth c s₁ B hml hP _
    have hh0 : s₁.heap = s.heap := by rw [B.state]; rfl
    obtain ⟨t, a1, o, b1, b2, b3⟩ := body p e s m args below meth c s₁ B hml hP s₁ hh0 (Stand.of_body B)
    exact ⟨t, o, a1, b1, b2, ⟨b3.1, b3.2⟩⟩
section RowsK
variable {w : WT} {p : Program} {l : Launch} {e : Env} {R : Room} {s : State} {m : MethodId} {args : Array Value} {below : List Frame} {meth : Method} {c : Code} {H : Heap} {locs : List Loc} {cells slots : Nat} {Q : State → Prop}
variable {cc : ByteArray} {nL pc : Nat} {own : String} {ret : Option FieldType} {ls : Array Slot} {rest : List Value} {M M' : Mem} {L L' : Lng}
/-- what a body stands on -/
def KC (w : WT) (p : Program) (s : State) (m : MethodId) (args : Array Value) (meth : Method) (c : Code) (cc : ByteArray) (nL : Nat) (own : String) (ret : Option FieldType) : Prop :=
  p.tables.exec = Jvm.exec ∧ c.code = cc ∧ c.maxLocals = nL ∧ s.vm.findClass own = some m.cls ∧ (∀ x ∈ BG, x.before args s = true) ∧ meth.sig.returnType = ret ∧ meth.locks = false ∧ EF w s ∧ WOK w
theorem kEnt {y : MethodName} {rm : Room} {av : List Value} {Qc : Array Value → State → Outcome → State → Prop} (hw : WOK w) (hy : plainFor y = true) (hc : y.cls = own) (hlen : (lg_sl av).length ≤ nL)
    (body : ∀ (p : Program) (e : Env) (s : State) (m : MethodId) (args : Array Value) (below : List Frame) (meth : Method) (c : Code), KC w p s m args meth c cc nL own ret → ∀ ls : Array Slot, lv_has ls nL (lv_args 0 av) → va_P (wD w) vwCl (pic w M L) s.heap →
      W p l e rm s m args below meth c s.heap [] 0 0 (MQ below Qc args s 0 0 (wA w)) (F0 m 0 ls [])) :
    Met l y (Cond.code y cc nL ret :: BG) rm (PRE w av M L) Qc 0 0 (wA w) := by
  refine ofWF (cc := cc) (maxL := nL) (ret := ret) hy rfl ?_
  intro p e s m args below meth c s₁ B hml hv
  obtain ⟨rfl, hE, hP⟩ := hv
  rw [lg_entry_eq]
  have hts := atoms_spec (ws := Cond.code y cc nL ret :: BG) B.pre
  subst hc
  exact body p e s m _ below meth c ⟨B.exec, B.bytes, hml, findClass_of_methodNamed B.named, fun x hx => hts x (List.mem_cons_of_mem _ hx), B.returns, B.notSynchronized, hE, hw⟩ _ (lv_entry av hlen) hP
theorem kEntC {mc ms : Nat} {y : MethodName} {rm : Room} {av : List Value} {Qc : Array Value → State → Outcome → State → Prop} (hw : WOK w) (hy : plainFor y = true) (hc : y.cls = own) (hlen : (lg_sl av).length ≤ nL)
    (body : ∀ (p : Program) (e : Env) (s : State) (m : MethodId) (args : Array Value) (below : List Frame) (meth : Method) (c : Code), KC w p s m args meth c cc nL own ret → ∀ ls : Array Slot, lv_has ls nL (lv_args 0 av) → va_P (wD w) vwCl (pic w M L) s.heap →
      W p l e rm s m args below meth c s.heap [] 0 0 (MQ below Qc args s mc ms (wA w)) (F0 m 0 ls [])) :
    Met l y (Cond.code y cc nL ret :: BG) rm (PRE w av M L) Qc mc ms (wA w) := by
  refine ofWF (cc := cc) (maxL := nL) (ret := ret) hy rfl ?_
  intro p e s m args below meth c s₁ B hml hv
  obtain ⟨rfl, hE, hP⟩ := hv
  rw [lg_entry_eq]
  have hts := atoms_spec (ws := Cond.code y cc nL ret :: BG) B.pre
  subst hc
  exact body p e s m _ below meth c ⟨B.exec, B.bytes, hml, findClass_of_methodNamed B.named, fun x hx => hts x (List.mem_cons_of_mem _ hx), B.returns, B.notSynchronized, hE, hw⟩ _ (lv_entry av hlen) hP
theorem C9 (C : KC w p s m args meth c cc nL own ret) {id : Nat} (h : id < 95) : id < wN w := C9w C.2.2.2.2.2.2.2.2 h
theorem k_get (C : KC w p s m args meth c cc nL own ret) (hP : va_P (wD w) vwCl (pic w M L) H) {id ci : Nat} {Cn : String} {T : u_T} {N index : Nat} {fs : List Value} (hid : id < wN w) (hob : cellX w L id (M id) = .inr (ci, fs)) (hc : vwCl[ci]? = some (Cn, T, N)) (hin : ∀ x ∈ u_ws Cn T N, x ∈ BG) (k : Nat) (hk : k < N)
    (hlink : Cond.fieldLink own index (T k).1 (T k).2.1 (T k).2.2.1 ∈ BG) {v : Value} (hv : fs[k]? = some v) (hdg : decode cc pc = .ok (.getfield index, 3))
    (kk : W p l e R s m args below meth c H locs cells slots Q (F0 m (pc + 3) ls (v :: rest))) : W p l e R s m args below meth c H locs cells slots Q (F0 m pc ls (.ref (wAd w id) :: rest)) :=
  va_get C.1 C.2.1 C.2.2.2.2.1 hin C.2.2.2.1 C.2.2.2.2.2.2.2.1.1 hP id (pic_at hid hob) hc k hk (C.2.2.2.2.1 _ hlink) (fun _ h => h) hv hdg kk
theorem k_put (C : KC w p s m args meth c cc nL own ret) (hP : va_P (wD w) vwCl (pic w M L) H) (hS : va_S (wA w) s.heap H locs) {id ci : Nat} {Cn : String} {T : u_T} {N index : Nat} {fs : List Value} {row : Nat → Int32} (hid : id < wN w) (hob : cellX w L id (M id) = .inr (ci, fs)) (hc : vwCl[ci]? = some (Cn, T, N)) (hin : ∀ x ∈ u_ws Cn T N, x ∈ BG)
    (ty0 : Nat → FieldType) (hty : ∀ k, k < N → parseFieldDescriptor (T k).2.2.1 = some (ty0 k)) (hnm : ∀ a, a < N → ∀ b, b < N → a ≠ b → (T a).2.1 ≠ (T b).2.1) (k : Nat) (hk : k < N)
    (hlink : Cond.fieldLink own index (T k).1 (T k).2.1 (T k).2.2.1 ∈ BG) (hfin : (T k).2.2.2 = false) {v : Value} (hn : narrow (ty0 k) v = v) (hfit : fits (ty0 k) v = true) (hl : k < fs.length) (hob2 : cellX w L' id row = .inr (ci, fs.set k v)) (hL : ∀ c, c < wN w → c ≠ id → cellX w L' c (M c) = cellX w L c (M c))
    (hdg : decode cc pc = .ok (.putfield index, 3)) (kk : ∀ (H1 : Heap) (locs1 : List Loc), va_P (wD w) vwCl (pic w (rset M id row) L') H1 → va_S (wA w) s.heap H1 locs1 → W p l e R s m args below meth c H1 locs1 cells slots Q (F0 m (pc + 3) ls rest)) :
    W p l e R s m args below meth c H locs cells slots Q (F0 m pc ls (v :: .ref (wAd w id) :: rest)) := by
  refine va_put C.1 C.2.1 C.2.2.2.2.1 hin ty0 hty hnm C.2.2.2.1 C.2.2.2.2.2.2.2.1.1 hP (pic_D C.2.2.2.2.2.2.2.2 M L) hS id (pic_at hid hob) hc k hk (C.2.2.2.2.1 _ hlink) (fun _ h => h) hfin (hty k hk) hn hfit hl hdg (fun H1 locs1 h1 _ h2 => kk H1 locs1 ?_ h2)
  have e1 : (pic w M L).set id (wAd w id, .inr (ci, fs.set k v)) = pic w (rset M id row) L' := by
    rw [← hob2]
    apply List.ext_getElem?
    intro i
    by_cases hi : i < wN w
    · by_cases hc : id = i
      · subst hc
        rw [List.getElem?_set_self (by simpa [pic] using hi)]
        simp [pic, hi, rset]
      · rw [List.getElem?_set_ne hc]
        simp [pic, hi, rset, Ne.symm hc, hL i hi (Ne.symm hc)]
    · rw [List.getElem?_eq_none (by simp [pic]; omega), List.getElem?_eq_none (by simp [pic]; omega)]
  rw [← e1]
  exact h1
theorem k_puti (C : KC w p s m args meth c cc nL own ret) (hP : va_P (wD w) vwCl (pic w M L) H) (hS : va_S (wA w) s.heap H locs) {id ci : Nat} {Cn : String} {T : u_T} {N index : Nat} {fs : (Nat → Int32) → List Value} (hid : id < wN w) (hob : ∀ row, cellX w L id row = .inr (ci, fs row)) (hc : vwCl[ci]? = some (Cn, T, N)) (hin : ∀ x ∈ u_ws Cn T N, x ∈ BG)
    (ty0 : Nat → FieldType) (hty : ∀ k, k < N → parseFieldDescriptor (T k).2.2.1 = some (ty0 k)) (hnm : ∀ a, a < N → ∀ b, b < N → a ≠ b → (T a).2.1 ≠ (T b).2.1) (k : Nat) (hk : k < N)
    (hlink : Cond.fieldLink own index (T k).1 (T k).2.1 (T k).2.2.1 ∈ BG) (hfin : (T k).2.2.2 = false) {v : Int32} (hty1 : ty0 k = .int) (hl : k < (fs (M id)).length) (hset : fs (upd (M id) k v) = (fs (M id)).set k (.int v))
    (hf : stf M id k v = some M') (hdg : decode cc pc = .ok (.putfield index, 3)) (kk : ∀ (H1 : Heap) (locs1 : List Loc), va_P (wD w) vwCl (pic w M' L) H1 → va_S (wA w) s.heap H1 locs1 → W p l e R s m args below meth c H1 locs1 cells slots Q (F0 m (pc + 3) ls rest)) :
    W p l e R s m args below meth c H locs cells slots Q (F0 m pc ls (.int v :: .ref (wAd w id) :: rest)) := by
  cases hf
  exact k_put (L' := L) (row := upd (M id) k v) C hP hS hid (hob _) hc hin ty0 hty hnm k hk hlink hfin (by rw [hty1]; rfl) (by rw [hty1]; rfl) hl (by rw [hob, hset]) (fun _ _ _ => rfl) hdg kk
theorem k_putz (C : KC w p s m args meth c cc nL own ret) (hP : va_P (wD w) vwCl (pic w M L) H) (hS : va_S (wA w) s.heap H locs) {id ci : Nat} {Cn : String} {T : u_T} {N index : Nat} {fs : (Nat → Int32) → List Value} (hid : id < wN w) (hob : ∀ row, cellX w L id row = .inr (ci, fs row)) (hc : vwCl[ci]? = some (Cn, T, N)) (hin : ∀ x ∈ u_ws Cn T N, x ∈ BG)
    (ty0 : Nat → FieldType) (hty : ∀ k, k < N → parseFieldDescriptor (T k).2.2.1 = some (ty0 k)) (hnm : ∀ a, a < N → ∀ b, b < N → a ≠ b → (T a).2.1 ≠ (T b).2.1) (k : Nat) (hk : k < N)
    (hlink : Cond.fieldLink own index (T k).1 (T k).2.1 (T k).2.2.1 ∈ BG) (hfin : (T k).2.2.2 = false) {v : Int32} (hty1 : ty0 k = .boolean) (hl : k < (fs (M id)).length) (hset : fs (upd (M id) k v) = (fs (M id)).set k (.int v))
    (hf : stz M id k v = some M') (hdg : decode cc pc = .ok (.putfield index, 3)) (kk : ∀ (H1 : Heap) (locs1 : List Loc), va_P (wD w) vwCl (pic w M' L) H1 → va_S (wA w) s.heap H1 locs1 → W p l e R s m args below meth c H1 locs1 cells slots Q (F0 m (pc + 3) ls rest)) :
    W p l e R s m args below meth c H locs cells slots Q (F0 m pc ls (.int v :: .ref (wAd w id) :: rest)) := by
  unfold stz at hf
  split at hf
  · rename_i h01
    cases hf
    refine k_put (L' := L) (row := upd (M id) k v) C hP hS hid (hob _) hc hin ty0 hty hnm k hk hlink hfin ?_ ?_ hl (by rw [hob, hset]) (fun _ _ _ => rfl) hdg kk
    · rw [hty1]; rcases h01 with rfl | rfl <;> rfl
    · rw [hty1]; rcases h01 with rfl | rfl <;> rfl
  · cases hf
theorem k_iald (C : KC w p s m args meth c cc nL own ret) (hP : va_P (wD w) vwCl (pic w M L) H) {id n : Nat} (hid : id < wN w) (hob : cellX w L id (M id) = .inl (wI w, n, .inl (M id))) {i x : Int32} (hf : rd M id n i = some x) (hdg : decode cc pc = .ok (.iaload, 1))
    (kk : W p l e R s m args below meth c H locs cells slots Q (F0 m (pc + 1) ls (.int x :: rest))) : W p l e R s m args below meth c H locs cells slots Q (F0 m pc ls (.int i :: .ref (wAd w id) :: rest)) := by
  unfold rd at hf
  split at hf
  · cases hf
  · rename_i hin
    cases hf
    exact va_iald C.1 C.2.1 C.2.2.2.2.2.2.2.1.1 hP id 0 (pic_at hid hob) rfl hin hdg kk
theorem k_iast (C : KC w p s m args meth c cc nL own ret) (hP : va_P (wD w) vwCl (pic w M L) H) (hS : va_S (wA w) s.heap H locs) {id n : Nat} (hid : id < wN w) (hob : ∀ row, cellX w L id row = .inl (wI w, n, .inl row)) {i x : Int32} (hf : wr M id n i x = some M') (hdg : decode cc pc = .ok (.iastore, 1))
    (kk : ∀ (H1 : Heap) (locs1 : List Loc), va_P (wD w) vwCl (pic w M' L) H1 → va_S (wA w) s.heap H1 locs1 → W p l e R s m args below meth c H1 locs1 cells slots Q (F0 m (pc + 1) ls rest)) :
    W p l e R s m args below meth c H locs cells slots Q (F0 m pc ls (.int x :: .int i :: .ref (wAd w id) :: rest)) := by
  unfold wr at hf
  split at hf
  · cases hf
  · rename_i hin
    cases hf
    refine va_iast C.1 C.2.1 C.2.2.2.2.2.2.2.1.1 hP (pic_D C.2.2.2.2.2.2.2.2 M L) hS id 0 (pic_at hid (hob _)) rfl hin hdg (fun H1 locs1 h1 _ h2 => kk H1 locs1 ?_ h2)
    rw [pic_set (upd (M id) i.toNatClampNeg x) hid (hob _)] at h1
    exact h1
theorem k_gets (C : KC w p s m args meth c cc nL own ret) (hS : va_S (wA w) s.heap H locs) {k index : Nat} (hk : k < 3) (hlink : Cond.fieldLink own index RX8 (SNm k) "[I" ∈ BG) (hdg : decode cc pc = .ok (.getstatic index, 3))
    (kk : W p l e R s m args below meth c H locs cells slots Q (F0 m (pc + 3) ls (.ref (wSt w k) :: rest))) : W p l e R s m args below meth c H locs cells slots Q (F0 m pc ls rest) :=
  va_gets C.1 C.2.1 (C.2.2.2.2.2.2.2.1.2.2.2 k hk).1 hS C.2.2.2.1 (C.2.2.2.2.1 _ hlink) (fun _ h => h) hdg kk
theorem k_getsN (C : KC w p s m args meth c cc nL own ret) (hS : va_S (wA w) s.heap H locs) {k index : Nat} (hk : k < 3) (hlink : Cond.fieldLinkNest own index RX8 (SNm k) "[I" RX8 ∈ NWL) (hdg : decode cc pc = .ok (.getstatic index, 3))
    (kk : W p l e R s m args below meth c H locs cells slots Q (F0 m (pc + 3) ls (.ref (wSt w k) :: rest))) : W p l e R s m args below meth c H locs cells slots Q (F0 m pc ls rest) :=
  va_getsN C.1 C.2.1 (C.2.2.2.2.2.2.2.1.2.2.2 k hk).1 hS C.2.2.2.1 ((C.2.2.2.2.2.2.2.1.2.2.1 _ hlink).use rfl) (fun _ h => h) hdg kk
theorem k_ti (C : KC w p s m args meth c cc nL own ret) (hS : va_S (wA w) s.heap H locs) {k : Nat} (hk : k < 3) {i x : Int32} (hf : rdS k i = some x) (hdg : decode cc pc = .ok (.iaload, 1))
    (kk : W p l e R s m args below meth c H locs cells slots Q (F0 m (pc + 1) ls (.int x :: rest))) : W p l e R s m args below meth c H locs cells slots Q (F0 m pc ls (.int i :: .ref (wSt w k) :: rest)) := by
  unfold rdS at hf
  split at hf
  · cases hf
  · rename_i hin
    cases hf
    exact va_ti C.1 C.2.1 (C.2.2.2.2.2.2.2.1.2.2.2 k hk).2 hS hin rfl hdg kk
theorem k_aldq (C : KC w p s m args meth c cc nL own ret) (hP : va_P (wD w) vwCl (pic w M L) H) (k : Nat) (hk : k < 8) {i : Int32} (hi : i = nI k) (hdg : decode cc pc = .ok (.aaload, 1))
    (kk : W p l e R s m args below meth c H locs cells slots Q (F0 m (pc + 1) ls (.ref (wAd w (6 + 5 * k)) :: rest))) : W p l e R s m args below meth c H locs cells slots Q (F0 m pc ls (.int i :: .ref (wAd w 47) :: rest)) := by
  subst hi
  refine va_aldq C.1 C.2.1 C.2.2.2.2.2.2.2.1.1 hP 47 1 (pic_at (C9 C (by decide)) (show cellX w L 47 (M 47) = .inl (wS w, 8, .inr (.inr (.inr (.inr (ringX w))))) from rfl)) rfl (vp_in_nI hk (by decide)) hdg ?_
  rw [nI_clamp (by omega)]
  unfold ringX
  rw [if_pos hk]
  exact kk
theorem k_idiv (C : KC w p s m args meth c cc nL own ret) {x y r : Int32} (hf : dvI x y = some r) (hdg : decode cc pc = .ok (.idiv, 1)) (kk : W p l e R s m args below meth c H locs cells slots Q (F0 m (pc + 1) ls (.int r :: rest))) : W p l e R s m args below meth c H locs cells slots Q (F0 m pc ls (.int y :: .int x :: rest)) := by
  unfold dvI at hf
  split at hf
  · cases hf
  · rename_i h
    cases hf
    exact lv_idiv C.1 C.2.1 hdg h kk
theorem k_irem (C : KC w p s m args meth c cc nL own ret) {x y r : Int32} (hf : rmI x y = some r) (hdg : decode cc pc = .ok (.irem, 1)) (kk : W p l e R s m args below meth c H locs cells slots Q (F0 m (pc + 1) ls (.int r :: rest))) : W p l e R s m args below meth c H locs cells slots Q (F0 m pc ls (.int y :: .int x :: rest)) := by
  unfold rmI at hf
  split at hf
  · cases hf
  · rename_i h
    cases hf
    exact lv_irem C.1 C.2.1 hdg h kk
theorem k_cpy (C : KC w p s m args meth c cc nL own ret) (hl : ls.size = nL) (hP : va_P (wD w) vwCl (pic w M L) H) (hS : va_S (wA w) s.heap H locs) {ia na ib nb index : Nat} (hia : ia < wN w) (hoa : cellX w L ia (M ia) = .inl (wI w, na, .inl (M ia))) (hib : ib < wN w) (hob : ∀ row, cellX w L ib row = .inl (wI w, nb, .inl row))
    (h1 : Cond.methodLink own index arraycopyName ∈ BG) (h2 : Cond.native arraycopyName ∈ BG) (h3 : Cond.static arraycopyName ∈ BG) (h4 : Cond.initialized "java/lang/System" ∈ BG) {sp dp n : Int32} (hf : cpy M ia na sp ib nb dp n = some M')
    (hframes : 1 ≤ R.frames) (hlocals : (rest.map fun v => v.category).sum + (nativeFrameWords "java/lang/System" "arraycopy" 5 + 11) ≤ R.locals) (hdg : decode cc pc = .ok (.invokestatic index, 3))
    (kk : ∀ (H1 : Heap) (locs1 : List Loc), va_P (wD w) vwCl (pic w M' L) H1 → va_S (wA w) s.heap H1 locs1 → W p l e R s m args below meth c H1 locs1 cells slots Q (F0 m (pc + 3) ls rest)) :
    W p l e R s m args below meth c H locs cells slots Q (F0 m pc ls (.int n :: .int dp :: .ref (wAd w ib) :: .int sp :: .ref (wAd w ia) :: rest)) := by
  unfold cpy at hf
  split at hf
  · cases hf
  · rename_i h
    cases hf
    simp only [not_or, Nat.not_lt] at h
    obtain ⟨g1, g2, g3, g4, g5⟩ := h
    refine va_copyi C.1 C.2.1 (C.2.2.1.trans hl.symm) C.2.2.2.1 (C.2.2.2.2.1 _ h1) (C.2.2.2.2.1 _ h2) (C.2.2.2.2.1 _ h3) (C.2.2.2.2.1 _ h4) C.2.2.2.2.2.2.2.1.1 hP (pic_D C.2.2.2.2.2.2.2.2 M L) hS ia ib 0 0 (pic_at hia hoa) (pic_at hib (hob _)) rfl rfl rfl g1 g2 g3 g4 g5 (fun _ _ => rfl) hframes hlocals hdg (fun H1 locs1 h1 _ h2 => kk H1 locs1 ?_ h2)
    rw [pic_set _ hib (hob _)] at h1
    exact h1
theorem k_max (C : KC w p s m args meth c cc nL own ret) (hl : ls.size = nL) {index : Nat} (h1 : Cond.methodLink own index Lib.Math.max.name ∈ BG) (h2 : Cond.static Lib.Math.max.name ∈ BG) (h3 : Cond.initialized "java/lang/Math" ∈ BG) (h4 : Cond.code Lib.Math.max.name Lib.Math.max.code 2 (some .int) ∈ BG)
    (hframes : 1 ≤ R.frames) (hlocals : (rest.map fun v => v.category).sum + 13 ≤ R.locals) (hc : cells ≤ R.cells) (hs : slots ≤ R.slots) {x y : Int32} (hdg : decode cc pc = .ok (.invokestatic index, 3))
    (kk : W p l e R s m args below meth c H locs cells slots Q (F0 m (pc + 3) ls (.int (mxI x y) :: rest))) : W p l e R s m args below meth c H locs cells slots Q (F0 m pc ls (.int y :: .int x :: rest)) :=
  va_mmax C.1 C.2.1 (C.2.2.1.trans hl.symm) C.2.2.2.1 (C.2.2.2.2.1 _ h1) (C.2.2.2.2.1 _ h2) (C.2.2.2.2.1 _ h3) (C.2.2.2.2.1 _ h4) hframes hlocals hc hs hdg kk
theorem k_min (C : KC w p s m args meth c cc nL own ret) (hl : ls.size = nL) {index : Nat} (h1 : Cond.methodLink own index Lib.Math.min.name ∈ BG) (h2 : Cond.static Lib.Math.min.name ∈ BG) (h3 : Cond.initialized "java/lang/Math" ∈ BG) (h4 : Cond.code Lib.Math.min.name Lib.Math.min.code 2 (some .int) ∈ BG)
    (hframes : 1 ≤ R.frames) (hlocals : (rest.map fun v => v.category).sum + 13 ≤ R.locals) (hc : cells ≤ R.cells) (hs : slots ≤ R.slots) {x y : Int32} (hdg : decode cc pc = .ok (.invokestatic index, 3))
    (kk : W p l e R s m args below meth c H locs cells slots Q (F0 m (pc + 3) ls (.int (mnI x y) :: rest))) : W p l e R s m args below meth c H locs cells slots Q (F0 m pc ls (.int y :: .int x :: rest)) :=
  va_mmin C.1 C.2.1 (C.2.2.1.trans hl.symm) C.2.2.2.1 (C.2.2.2.2.1 _ h1) (C.2.2.2.2.1 _ h2) (C.2.2.2.2.1 _ h3) (C.2.2.2.2.1 _ h4) hframes hlocals hc hs hdg kk
variable {y : MethodName} {bytes : ByteArray} {maxL n index : Nat} {rt : Option FieldType} {rm : Room} {Qc : Array Value → State → Outcome → State → Prop} {As st0 : List Value}
theorem kV (C : KC w p s m args meth c cc nL own ret) (hl : ls.size = nL) (hP : va_P (wD w) vwCl (pic w M L) H) (hS : va_S (wA w) s.heap H locs) {id ci : Nat} {q : vw_C} {fs : List Value} (hM : Met l y (Cond.code y bytes maxL rt :: BG) rm (PRE w (.ref (wAd w id) :: As) M L) Qc 0 0 (wA w))
    (hG : GoodIn BG (wsV own index q.1 y (Cond.code y bytes maxL rt :: BG))) (hd : y.cls = q.1 ∧ y.cls ≠ "java/lang/invoke/MethodHandle" ∧ y.cls ≠ "java/lang/invoke/VarHandle" ∧ (parseMethodDescriptor y.desc).map (fun d => d.parameters.length) = some n)
    (hid : id < wN w) (hob : cellX w L id (M id) = .inr (ci, fs)) (hci : vwCl[ci]? = some q) (hrm : rm.cells = 0 ∧ rm.slots = 0) (hR : rm.frames + 1 ≤ R.frames ∧ 8 + (maxL + 11) + rm.locals ≤ R.locals)
    (hn : As.length = n) (hst : st0 = As.reverse ++ .ref (wAd w id) :: rest) (hr : (rest.map fun v => v.category).sum ≤ 8) (hdg : decode cc pc = .ok (.invokevirtual index, 3)) (hf : cells ≤ R.cells ∧ slots ≤ R.slots) :
    va_Run p l e R s m args below meth c H locs cells slots 0 0 (F0 m pc ls st0) rest (Qc (Value.ref (wAd w id) :: As).toArray) (wA w) :=
  va_runV ⟨C.1, C.2.1, C.2.2.1, C.2.2.2.1, C.2.2.2.2.1⟩ hM (cwV n C.2.2.2.2.1 hG rfl hrm.1 hrm.2 hd hR) ⟨blindPRE w _ M L, va_recv C.2.2.2.2.2.2.2.1.1 hP hci (pic_at hid hob), fun U hU hW => ⟨rfl, C.2.2.2.2.2.2.2.1.warm hW (by rw [hU]; exact hS), by rw [hU]; exact hP⟩⟩ rfl hn hl hst (lv_room hr) hdg hf
theorem kS (C : KC w p s m args meth c cc nL own ret) (hl : ls.size = nL) (hP : va_P (wD w) vwCl (pic w M L) H) (hS : va_S (wA w) s.heap H locs) (hM : Met l y (Cond.code y bytes maxL rt :: BG) rm (PRE w As M L) Qc 0 0 (wA w))
    (hG : GoodIn BG (va_wsS own index y (Cond.code y bytes maxL rt :: BG))) (hd : y.cls ≠ "java/lang/invoke/MethodHandle" ∧ y.cls ≠ "java/lang/invoke/VarHandle" ∧ (parseMethodDescriptor y.desc).map (fun d => d.parameters.length) = some n)
    (hrm : rm.cells = 0 ∧ rm.slots = 0) (hR : rm.frames + 1 ≤ R.frames ∧ 8 + (maxL + 11) + rm.locals ≤ R.locals)
    (hn : As.length = n) (hst : st0 = As.reverse ++ rest) (hr : (rest.map fun v => v.category).sum ≤ 8) (hdg : decode cc pc = .ok (.invokestatic index, 3)) (hf : cells ≤ R.cells ∧ slots ≤ R.slots) :
    va_Run p l e R s m args below meth c H locs cells slots 0 0 (F0 m pc ls st0) rest (Qc As.toArray) (wA w) :=
  va_runS ⟨C.1, C.2.1, C.2.2.1, C.2.2.2.1, C.2.2.2.2.1⟩ hM (va_cwS n C.2.2.2.2.1 hG rfl hrm.1 hrm.2 hd hR) ⟨blindPRE w _ M L, fun U hU hW => ⟨rfl, C.2.2.2.2.2.2.2.1.warm hW (by rw [hU]; exact hS), by rw [hU]; exact hP⟩⟩ rfl hn hl hst (lv_room hr) hdg hf
theorem kSc {mc ms : Nat} (C : KC w p s m args meth c cc nL own ret) (hl : ls.size = nL) (hP : va_P (wD w) vwCl (pic w M L) H) (hS : va_S (wA w) s.heap H locs) (hM : Met l y (Cond.code y bytes maxL rt :: BG) rm (PRE w As M L) Qc mc ms (wA w))
    (hG : GoodIn BG (va_wsS own index y (Cond.code y bytes maxL rt :: BG))) (hd : y.cls ≠ "java/lang/invoke/MethodHandle" ∧ y.cls ≠ "java/lang/invoke/VarHandle" ∧ (parseMethodDescriptor y.desc).map (fun d => d.parameters.length) = some n)
    (hrm : rm.cells = mc ∧ rm.slots = ms) (hR : rm.frames + 1 ≤ R.frames ∧ 8 + (maxL + 11) + rm.locals ≤ R.locals)
    (hn : As.length = n) (hst : st0 = As.reverse ++ rest) (hr : (rest.map fun v => v.category).sum ≤ 8) (hdg : decode cc pc = .ok (.invokestatic index, 3)) (hf : cells + mc ≤ R.cells ∧ slots + ms ≤ R.slots) :
    va_Run p l e R s m args below meth c H locs cells slots mc ms (F0 m pc ls st0) rest (Qc As.toArray) (wA w) :=
  va_runS ⟨C.1, C.2.1, C.2.2.1, C.2.2.2.1, C.2.2.2.2.1⟩ hM (va_cwS n C.2.2.2.2.1 hG rfl hrm.1 hrm.2 hd hR) ⟨blindPRE w _ M L, fun U hU hW => ⟨rfl, C.2.2.2.2.2.2.2.1.warm hW (by rw [hU]; exact hS), by rw [hU]; exact hP⟩⟩ rfl hn hl hst (lv_room hr) hdg hf
theorem kSN (C : KC w p s m args meth c cc nL own ret) (hl : ls.size = nL) (hP : va_P (wD w) vwCl (pic w M L) H) (hS : va_S (wA w) s.heap H locs) (hM : Met l y (Cond.code y bytes maxL rt :: BG) rm (PRE w As M L) Qc 0 0 (wA w))
    (hcd : Cond.code y bytes maxL rt ∈ BG) (hnl : Cond.methodLinkNest own index y RX8 ∈ NWL) (hini : Cond.initialized y.cls ∈ BG) (hstt : Cond.static y ∈ BG) (hd : y.cls ≠ "java/lang/invoke/MethodHandle" ∧ y.cls ≠ "java/lang/invoke/VarHandle" ∧ (parseMethodDescriptor y.desc).map (fun d => d.parameters.length) = some n)
    (hrm : rm.cells = 0 ∧ rm.slots = 0) (hR : rm.frames + 1 ≤ R.frames ∧ 8 + (maxL + 11) + rm.locals ≤ R.locals)
    (hn : As.length = n) (hst : st0 = As.reverse ++ rest) (hr : (rest.map fun v => v.category).sum ≤ 8) (hdg : decode cc pc = .ok (.invokestatic index, 3)) (hf : cells ≤ R.cells ∧ slots ≤ R.slots) :
    va_Run p l e R s m args below meth c H locs cells slots 0 0 (F0 m pc ls st0) rest (Qc As.toArray) (wA w) :=
  va_runSN ⟨C.1, C.2.1, C.2.2.1, C.2.2.2.1, C.2.2.2.2.1⟩ hM ⟨va_cnB n C.2.2.2.2.1 (gB hcd) rfl hrm.1 hrm.2 (C.2.2.2.2.2.2.2.1.2.2.1 _ hnl) (C.2.2.2.2.1 _ hini) hd hR, C.2.2.2.2.1 _ hstt, trivial⟩ ⟨blindPRE w _ M L, fun U hU hW => ⟨rfl, C.2.2.2.2.2.2.2.1.warm hW (by rw [hU]; exact hS), by rw [hU]; exact hP⟩⟩ rfl hn hl hst (lv_room hr) hdg hf
variable {a : Array Value}
theorem kci {r : Int32} (hr : va_Run p l e R s m args below meth c H locs cells slots 0 0 (F0 m pc ls st0) rest (QI w r M' L' a) (wA w)) (hS : va_S (wA w) s.heap H locs)
    (kk : ∀ (H1 : Heap) (locs1 : List Loc), va_P (wD w) vwCl (pic w M' L') H1 → va_S (wA w) s.heap H1 locs1 → W p l e R s m args below meth c H1 locs1 cells slots Q (F0 m (pc + 3) ls (.int r :: rest))) : W p l e R s m args below meth c H locs cells slots Q (F0 m pc ls st0) := by
  refine va_calli hr hS (fun _ _ h => h) (fun _ h => h) (fun r1 u t H1 locs1 ht _ hp hB _ _ hS1 => ?_)
  obtain ⟨rfl, rfl⟩ := hp
  unfold PW at hB
  rw [ht] at hB
  exact kk H1 locs1 hB hS1
theorem kcic {r : Int32} {mc ms : Nat} (hr : va_Run p l e R s m args below meth c H locs cells slots mc ms (F0 m pc ls st0) rest (QI w r M' L' a) (wA w)) (hS : va_S (wA w) s.heap H locs)
    (kk : ∀ (H1 : Heap) (locs1 : List Loc), va_P (wD w) vwCl (pic w M' L') H1 → va_S (wA w) s.heap H1 locs1 → W p l e R s m args below meth c H1 locs1 (cells + mc) (slots + ms) Q (F0 m (pc + 3) ls (.int r :: rest))) : W p l e R s m args below meth c H locs cells slots Q (F0 m pc ls st0) := by
  refine va_calli hr hS (fun _ _ h => h) (fun _ h => h) (fun r1 u t H1 locs1 ht _ hp hB _ _ hS1 => ?_)
  obtain ⟨rfl, rfl⟩ := hp
  unfold PW at hB
  rw [ht] at hB
  exact kk H1 locs1 hB hS1
theorem kcl {r : Int64} (hr : va_Run p l e R s m args below meth c H locs cells slots 0 0 (F0 m pc ls st0) rest (QL w r M' L' a) (wA w)) (hS : va_S (wA w) s.heap H locs)
    (kk : ∀ (H1 : Heap) (locs1 : List Loc), va_P (wD w) vwCl (pic w M' L') H1 → va_S (wA w) s.heap H1 locs1 → W p l e R s m args below meth c H1 locs1 cells slots Q (F0 m (pc + 3) ls (.long r :: rest))) : W p l e R s m args below meth c H locs cells slots Q (F0 m pc ls st0) := by
  refine va_calll hr hS (fun _ _ h => h) (fun _ h => h) (fun r1 u t H1 locs1 ht _ hp hB _ _ hS1 => ?_)
  obtain ⟨rfl, rfl⟩ := hp
  unfold PW at hB
  rw [ht] at hB
  exact kk H1 locs1 hB hS1
theorem kcd {r : UInt64} (hr : va_Run p l e R s m args below meth c H locs cells slots 0 0 (F0 m pc ls st0) rest (QD w r M' L' a) (wA w)) (hS : va_S (wA w) s.heap H locs)
    (kk : ∀ (H1 : Heap) (locs1 : List Loc), va_P (wD w) vwCl (pic w M' L') H1 → va_S (wA w) s.heap H1 locs1 → W p l e R s m args below meth c H1 locs1 cells slots Q (F0 m (pc + 3) ls (.double r :: rest))) : W p l e R s m args below meth c H locs cells slots Q (F0 m pc ls st0) := by
  refine va_calld hr hS (fun _ _ h => h) (fun _ h => h) (fun r1 u t H1 locs1 ht _ hp hB _ _ hS1 => ?_)
  obtain ⟨rfl, rfl⟩ := hp
  unfold PW at hB
  rw [ht] at hB
  exact kk H1 locs1 hB hS1
theorem kcv (hr : va_Run p l e R s m args below meth c H locs cells slots 0 0 (F0 m pc ls st0) rest (QV w M' L' a) (wA w)) (hS : va_S (wA w) s.heap H locs)
    (kk : ∀ (H1 : Heap) (locs1 : List Loc), va_P (wD w) vwCl (pic w M' L') H1 → va_S (wA w) s.heap H1 locs1 → W p l e R s m args below meth c H1 locs1 cells slots Q (F0 m (pc + 3) ls rest)) : W p l e R s m args below meth c H locs cells slots Q (F0 m pc ls st0) := by
  refine va_callv hr hS (fun _ _ h => h) (fun _ h => h) (fun u t H1 locs1 ht _ hp hB _ _ hS1 => ?_)
  cases hp
  unfold PW at hB
  rw [ht] at hB
  exact kk H1 locs1 hB hS1
theorem kri {r : Int32} (C : KC w p s m args meth c cc nL own (some .int)) (hP : va_P (wD w) vwCl (pic w M L) H) (hS : va_S (wA w) s.heap H locs) (hdg : decode cc pc = .ok (.ireturn, 1)) :
    W p l e R s m args below meth c H locs cells slots (MQ below (QI w r M L) args s cells slots (wA w)) (F0 m pc ls [.int r]) :=
  W.iret C.1 C.2.1 C.2.2.2.2.2.1 (fun t ht _ => ⟨⟨r, (M, L), rfl, ⟨rfl, rfl⟩, by unfold PW; rw [ht]; exact hP⟩, hS.F ht⟩) hS.2.2 hdg C.2.2.2.2.2.2.1
theorem krz {r x : Int32} (C : KC w p s m args meth c cc nL own (some .boolean)) (hP : va_P (wD w) vwCl (pic w M L) H) (hS : va_S (wA w) s.heap H locs) (hf : bz x = some r) (hdg : decode cc pc = .ok (.ireturn, 1)) :
    W p l e R s m args below meth c H locs cells slots (MQ below (QI w r M L) args s cells slots (wA w)) (F0 m pc ls [.int x]) := by
  unfold bz at hf
  split at hf
  · rename_i h
    cases hf
    exact W.zret C.1 C.2.1 C.2.2.2.2.2.1 (by rcases h with rfl | rfl <;> rfl) (fun t ht _ => ⟨⟨_, (M, L), rfl, ⟨rfl, rfl⟩, by unfold PW; rw [ht]; exact hP⟩, hS.F ht⟩) hS.2.2 hdg C.2.2.2.2.2.2.1
  · cases hf
theorem krl {r : Int64} (C : KC w p s m args meth c cc nL own (some .long)) (hP : va_P (wD w) vwCl (pic w M L) H) (hS : va_S (wA w) s.heap H locs) (hdg : decode cc pc = .ok (.lreturn, 1)) :
    W p l e R s m args below meth c H locs cells slots (MQ below (QL w r M L) args s cells slots (wA w)) (F0 m pc ls [.long r]) :=
  W.lret C.1 C.2.1 C.2.2.2.2.2.1 (fun t ht _ => ⟨⟨r, (M, L), rfl, ⟨rfl, rfl⟩, by unfold PW; rw [ht]; exact hP⟩, hS.F ht⟩) hS.2.2 hdg C.2.2.2.2.2.2.1
theorem krd {r : UInt64} (C : KC w p s m args meth c cc nL own (some .double)) (hP : va_P (wD w) vwCl (pic w M L) H) (hS : va_S (wA w) s.heap H locs) (hdg : decode cc pc = .ok (.dreturn, 1)) :
    W p l e R s m args below meth c H locs cells slots (MQ below (QD w r M L) args s cells slots (wA w)) (F0 m pc ls [.double r]) :=
  W.dret C.1 C.2.1 C.2.2.2.2.2.1 (fun t ht _ => ⟨⟨r, (M, L), rfl, ⟨rfl, rfl⟩, by unfold PW; rw [ht]; exact hP⟩, hS.F ht⟩) hS.2.2 hdg C.2.2.2.2.2.2.1
theorem krv (C : KC w p s m args meth c cc nL own none) (hP : va_P (wD w) vwCl (pic w M L) H) (hS : va_S (wA w) s.heap H locs) (hdg : decode cc pc = .ok (.return_, 1)) :
    W p l e R s m args below meth c H locs cells slots (MQ below (QV w M L) args s cells slots (wA w)) (F0 m pc ls []) :=
  W.vret C.1 C.2.1 C.2.2.2.2.2.1 (fun t ht _ => ⟨⟨(M, L), rfl, rfl, by unfold PW; rw [ht]; exact hP⟩, hS.F ht⟩) hS.2.2 hdg C.2.2.2.2.2.2.1
theorem k_ddiv (C : KC w p s m args meth c cc nL own ret) {x y r : UInt64} (hf : ddv x y = some r) (hdg : decode cc pc = .ok (.ddiv, 1)) (kk : W p l e R s m args below meth c H locs cells slots Q (F0 m (pc + 1) ls (.double r :: rest))) : W p l e R s m args below meth c H locs cells slots Q (F0 m pc ls (.double y :: .double x :: rest)) := by
  unfold ddv at hf
  split at hf
  · rename_i h
    cases hf
    exact lv_ddiv C.1 C.2.1 hdg h kk
  · cases hf
theorem k_dmul (C : KC w p s m args meth c cc nL own ret) {x y r : UInt64} (hf : dml x y = some r) (hdg : decode cc pc = .ok (.dmul, 1)) (kk : W p l e R s m args below meth c H locs cells slots Q (F0 m (pc + 1) ls (.double r :: rest))) : W p l e R s m args below meth c H locs cells slots Q (F0 m pc ls (.double y :: .double x :: rest)) := by
  unfold dml at hf
  split at hf
  · rename_i h
    cases hf
    exact lv_dmul C.1 C.2.1 hdg h kk
  · cases hf
theorem k_dsub (C : KC w p s m args meth c cc nL own ret) {x y r : UInt64} (hf : dsb x y = some r) (hdg : decode cc pc = .ok (.dsub, 1)) (kk : W p l e R s m args below meth c H locs cells slots Q (F0 m (pc + 1) ls (.double r :: rest))) : W p l e R s m args below meth c H locs cells slots Q (F0 m pc ls (.double y :: .double x :: rest)) := by
  unfold dsb at hf
  split at hf
  · rename_i h
    cases hf
    exact lv_dsub C.1 C.2.1 hdg h kk
  · cases hf
/-- a block: from every heap and locals that hold what is said, the walk goes on -/
def AtL (w : WT) (p : Program) (l : Launch) (e : Env) (R : Room) (s : State) (m : MethodId) (args : Array Value) (below : List Frame) (meth : Method) (c : Code) (Q : State → Prop) (nL pc : Nat) (M : Mem) (L : Lng) (lv : List (Nat × Value)) (st : List Value) : Prop :=
  ∀ (H : Heap) (locs : List Loc) (ls : Array Slot), va_P (wD w) vwCl (pic w M L) H → va_S (wA w) s.heap H locs → lv_has ls nL lv → W p l e R s m args below meth c H locs 0 0 Q (F0 m pc ls st)
/-- the same behind what a method has made -/
def AtC (w : WT) (p : Program) (l : Launch) (e : Env) (R : Room) (s : State) (m : MethodId) (args : Array Value) (below : List Frame) (meth : Method) (c : Code) (Q : State → Prop) (nL pc : Nat) (M : Mem) (L : Lng) (lv : List (Nat × Value)) (st : List Value) (cu su : Nat) : Prop :=
  ∀ (H : Heap) (locs : List Loc) (ls : Array Slot), va_P (wD w) vwCl (pic w M L) H → va_S (wA w) s.heap H locs → lv_has ls nL lv → W p l e R s m args below meth c H locs cu su Q (F0 m pc ls st)
end RowsK
theorem loop_atj {σ ρ : Type} {body : σ → Option (σ ⊕ ρ)} {A : Nat → σ → Prop} {E : ρ → Prop} (J : Nat)
    (hs : ∀ j, j < J → ∀ s o, body s = some o → (∀ s', o = .inl s' → A (j + 1) s') → (∀ r, o = .inr r → E r) → A j s) : ∀ (n j : Nat) (s : σ) (r : ρ), j + n ≤ J → loopN body n s = some r → E r → A j s := by
  intro n
  induction n with
  | zero => intro j s r _ h; cases h
  | succ n ih =>
    intro j s r hj h hE
    unfold loopN at h
    cases hb : body s with
    | none => rw [hb] at h; cases h
    | some o =>
      rw [hb] at h
      cases o with
      | inl s' => exact hs j (by omega) s _ hb (fun s2 e => by cases e; exact ih (j + 1) s' r (by omega) h hE) (fun r2 e => by cases e)
      | inr r' =>
        cases h
        exact hs j (by omega) s _ hb (fun s2 e => by cases e) (fun r2 e => by cases e; exact hE)

