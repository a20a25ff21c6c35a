/-! the law matches complaints -/
theorem mk_bit : ∀ D, D < 64 → ∀ k, k < 6 → (((nI D >>> (nI k &&& 31)) &&& 1 = 0) ↔ Nat.testBit D k = false) := by decide +kernel
theorem mk_or : ∀ D, D < 64 → ∀ k, k < 6 → nI D ||| ((1 : Int32) <<< (nI k &&& 31)) = nI (D ||| (1 <<< k)) ∧ (D ||| (1 <<< k)) < 64 ∧ ∀ j, j < 6 → Nat.testBit (D ||| (1 <<< k)) j = (Nat.testBit D j || decide (j = k)) := by decide +kernel
theorem tk_s : ∀ (l : List Nat) (i k : Nat), l[i]? = some k → l.take (i + 1) = l.take i ++ [k]
  | [], i, k, h => by simp at h
  | a :: l, 0, k, h => by
    simp at h
    subst h
    simp
  | a :: l, i + 1, k, h => by
    have h2 : l[i]? = some k := by simpa using h
    have := tk_s l i k h2
    show a :: l.take (i + 1) = a :: (l.take i ++ [k])
    rw [this]
theorem tk_mem : ∀ (l : List Nat) (i k : Nat), k ∈ l.take i ↔ ∃ j, j < i ∧ l[j]? = some k
  | [], i, k => by simp
  | a :: l, 0, k => by simp
  | a :: l, i + 1, k => by
    have ih := tk_mem l i k
    show k ∈ a :: l.take i ↔ _
    rw [List.mem_cons, ih]
    constructor
    · rintro (h | ⟨j, h1, h2⟩)
      · exact ⟨0, by omega, by rw [h]; rfl⟩
      · exact ⟨j + 1, by omega, h2⟩
    · rintro ⟨j, h1, h2⟩
      cases j with
      | zero => exact Or.inl (by simpa using h2.symm)
      | succ j => exact Or.inr ⟨j, by omega, h2⟩
abbrev cw (cm : Nat → Int32) (k : Nat) : Nat := (cm k).toInt.toNat
abbrev Ls (cm : Nat → Int32) (a b : Nat) : Prop := cw cm a < cw cm b ∨ (cw cm a = cw cm b ∧ a < b)
theorem cw_n {cm : Nat → Int32} {k w : Nat} (h : cm k = nI w) (hw : w < 1000) : cw cm k = w := by
  unfold cw
  rw [h, i_nI (by omega)]
  rfl
theorem mL_pw {cm : Nat → Int32} {c : Nat} : ∀ {v : Nat}, v < 1000 → (mL cm c v).Pairwise (Ls cm)
  | 0, _ => List.Pairwise.nil
  | v + 1, hv => by
    refine List.pairwise_append.mpr ⟨mL_pw (by omega), ?_, fun a ha b hb => ?_⟩
    · refine List.Pairwise.imp_of_mem (R := fun a b => a < b) ?_ (List.Pairwise.filter _ List.pairwise_lt_range)
      intro a b ha hb hab
      have h1 := cw_n (of_decide_eq_true (List.mem_filter.mp ha).2) (show v < 1000 by omega)
      have h2 := cw_n (of_decide_eq_true (List.mem_filter.mp hb).2) (show v < 1000 by omega)
      exact Or.inr ⟨by rw [h1, h2], hab⟩
    · obtain ⟨-, w, hw, e⟩ := mL_mem ha
      have h1 := cw_n e (show w < 1000 by omega)
      have h2 := cw_n (of_decide_eq_true (List.mem_filter.mp hb).2) (show v < 1000 by omega)
      exact Or.inl (by rw [h1, h2]; exact hw)
theorem pw_get {R : Nat → Nat → Prop} {l : List Nat} (h : l.Pairwise R) : ∀ {i j a b : Nat}, i < j → l[i]? = some a → l[j]? = some b → R a b := by
  induction h with
  | nil => intro i j a b _ h1; simp at h1
  | cons hx _ ih =>
    intro i j a b hij h1 h2
    cases j with
    | zero => omega
    | succ j =>
      have h2' := (List.getElem?_cons_succ).symm.trans h2
      cases i with
      | zero =>
        simp at h1
        subst h1
        exact hx b (List.mem_of_getElem? h2')
      | succ i => exact ih (show i < j by omega) ((List.getElem?_cons_succ).symm.trans h1) h2'
/-- complaints as the law keeps them -/
def Lc (cm : Nat → Int32) (nc : Nat) (M : Mem) : Prop := nc ≤ 6 ∧ M 93 1 = nI nc ∧ ∀ k, k < nc → M 92 k = cm k ∧ ∃ w, w ≤ 300 ∧ cm k = nI w
theorem Lc_off {cm : Nat → Int32} {nc : Nat} {M M' : Mem} (h : Lc cm nc M) (ho : ∀ c, 92 ≤ c → c ≤ 93 → M' c = M c) : Lc cm nc M' := by
  unfold Lc
  rw [ho 92 (by omega) (by omega), ho 93 (by omega) (by omega)]
  exact h
theorem r931 {M : Mem} : rd M 93 2 1 = some (M 93 1) := rd_nI (k := 1) (by decide) (by decide)
theorem r930 {M : Mem} : rd M 93 2 0 = some (M 93 0) := rd_nI (k := 0) (by decide) (by decide)
/-- the next complaint -/
theorem sel_l {cm : Nat → Int32} {nc g0 D i r : Nat} {v9 : Int32} {M : Mem} (h : Lc cm nc M) (hD : D < 64) (hdone : ∀ k, k < nc → (Nat.testBit D k = true ↔ k ∈ (mL cm nc 301).take i)) (hr : (mL cm nc 301)[i]? = some r) :
    loopN (f_L_match_l46 g0 (nI D) v9 M) FU ((-1), (nI nc - 1)) = some (nI r) := by
  obtain ⟨hnc, -, hc⟩ := h
  have hall : ∀ k, k < nc → ∃ j, (mL cm nc 301)[j]? = some k := fun k hk => by
    obtain ⟨w, hw, e⟩ := (hc k hk).2
    exact List.getElem?_of_mem (mL_all hk e (show w < 301 by omega))
  have hrm := (mL_mem (List.mem_of_getElem? hr)).1
  have hnd := mL_nodup (cm := cm) (c := nc) (v := 301) (by decide)
  have hpw := mL_pw (cm := cm) (c := nc) (v := 301) (by decide)
  have hcw : ∀ k, k < nc → cm k = nI (cw cm k) ∧ cw cm k ≤ 300 := fun k hk => by
    obtain ⟨w, hw, e⟩ := (hc k hk).2
    rw [cw_n e (by omega)]
    exact ⟨e, hw⟩
  have hrnd : ¬ Nat.testBit D r = true := by
    intro q
    obtain ⟨j, h1, h2⟩ := (tk_mem _ i r).mp ((hdone r hrm).mp q)
    have := pw_get hpw h1 h2 hr
    unfold Ls at this
    omega
  have key : Ok (loopN (f_L_match_l46 g0 (nI D) v9 M) FU ((-1), (nI nc - 1))) (fun x => x = nI r) := by
    refine loop_FU (fun j z => z.2 = nI (nc - j) - 1 ∧ ((z.1 = -1 ∧ ∀ k, nc - j ≤ k → k < nc → Nat.testBit D k = true) ∨ ∃ q, z.1 = nI q ∧ nc - j ≤ q ∧ q < nc ∧ ¬ Nat.testBit D q = true ∧ ∀ k, nc - j ≤ k → k < nc → ¬ Nat.testBit D k = true → cw cm q < cw cm k ∨ (cw cm q = cw cm k ∧ q ≤ k))) _ nc (by omega) ?_ ?_ ⟨rfl, Or.inl ⟨rfl, fun k h1 h2 => by omega⟩⟩
    · rintro j ⟨x, y⟩ hj ⟨h1, h2⟩
      dsimp only at h1 h2
      subst h1
      unfold f_L_match_l46
      dsimp only
      obtain ⟨k, hk⟩ : ∃ k, nc - j = k + 1 := ⟨nc - j - 1, by omega⟩
      have hk2 : nc - (j + 1) = k := by omega
      rw [hk, nI_pred]
      rw [hk] at h2
      refine Ok.neg (nI_pos (by omega)) ?_
      have hb := mk_bit D hD k (by omega)
      have hnext : nI k + (-1) = nI (nc - (j + 1)) - 1 := by
        rw [hk2]
        exact (Int32.sub_eq_add_neg _ _).symm
      have keep : ∀ v, v = x → (Nat.testBit D k = true ∨ ∃ q, x = nI q ∧ q < nc ∧ ¬ Nat.testBit D q = true ∧ cw cm q < cw cm k) → Ok (f_L_match_j81 g0 (nI D) v9 v (nI k) M) (fun o => Sum.elim (fun z => z.2 = nI (nc - (j + 1)) - 1 ∧ ((z.1 = -1 ∧ ∀ k, nc - (j + 1) ≤ k → k < nc → Nat.testBit D k = true) ∨ ∃ q, z.1 = nI q ∧ nc - (j + 1) ≤ q ∧ q < nc ∧ ¬ Nat.testBit D q = true ∧ ∀ k, nc - (j + 1) ≤ k → k < nc → ¬ Nat.testBit D k = true → cw cm q < cw cm k ∨ (cw cm q = cw cm k ∧ q ≤ k))) (fun x => x = nI r) o) := by
        intro v hv hq
        subst hv
        unfold f_L_match_j81
        refine Ok.of ⟨hnext, ?_⟩
        dsimp only
        rw [hk2]
        rcases h2 with ⟨e1, e2⟩ | ⟨q, e1, e2, e3, e4, e5⟩
        · rcases hq with hq | ⟨q, f1, f2, f3, f4⟩
          · refine Or.inl ⟨e1, fun k' g1 g2 => ?_⟩
            by_cases hkk : k' = k
            · rw [hkk]; exact hq
            · exact e2 k' (by omega) g2
          · exfalso
            rw [e1] at f1
            have := congrArg Int32.toInt f1
            rw [i_nI (by omega)] at this
            have e9 : (-1 : Int32).toInt = -1 := by decide
            omega
        · refine Or.inr ⟨q, e1, by omega, e3, e4, fun k' g1 g2 g3 => ?_⟩
          by_cases hkk : k' = k
          · rw [hkk] at g3 ⊢
            rcases hq with hq | ⟨q2, f1, f2, f3, f4⟩
            · exact absurd hq g3
            · have : q = q2 := (nI_eq (by omega) (by omega)).mp (e1.symm.trans f1)
              subst this
              exact Or.inl f4
          · exact e5 k' (by omega) g2 g3
      have take_ : ¬ Nat.testBit D k = true → (x = -1 ∨ ∃ q, x = nI q ∧ q < nc ∧ cw cm k ≤ cw cm q) → Ok (f_L_match_j77 g0 (nI D) v9 (nI k) M) (fun o => Sum.elim (fun z => z.2 = nI (nc - (j + 1)) - 1 ∧ ((z.1 = -1 ∧ ∀ k, nc - (j + 1) ≤ k → k < nc → Nat.testBit D k = true) ∨ ∃ q, z.1 = nI q ∧ nc - (j + 1) ≤ q ∧ q < nc ∧ ¬ Nat.testBit D q = true ∧ ∀ k, nc - (j + 1) ≤ k → k < nc → ¬ Nat.testBit D k = true → cw cm q < cw cm k ∨ (cw cm q = cw cm k ∧ q ≤ k))) (fun x => x = nI r) o) := by
        intro hnk hq
        unfold f_L_match_j77 f_L_match_j81
        refine Ok.of ⟨hnext, Or.inr ⟨k, rfl, by omega, by omega, hnk, fun k' g1 g2 g3 => ?_⟩⟩
        by_cases hkk : k' = k
        · rw [hkk]
          exact Or.inr ⟨rfl, Nat.le_refl _⟩
        · rcases h2 with ⟨e1, e2⟩ | ⟨q, e1, e2, e3, e4, e5⟩
          · exact absurd (e2 k' (by omega) g2) g3
          · rcases hq with hq | ⟨q2, f1, f2, f3⟩
            · exfalso
              rw [hq] at e1
              have := congrArg Int32.toInt e1
              rw [i_nI (by omega)] at this
              have e9 : (-1 : Int32).toInt = -1 := by decide
              omega
            · have : q = q2 := (nI_eq (by omega) (by omega)).mp (e1.symm.trans f1)
              subst this
              have := e5 k' (by omega) g2 g3
              omega
      refine Ok.ite (fun c => ?_) (fun c => ?_)
      · have hnk : ¬ Nat.testBit D k = true := by rw [hb.mp c]; decide
        refine Ok.ite (fun c2 => take_ hnk ?_) (fun c2 => ?_)
        · rcases h2 with ⟨e1, -⟩ | ⟨q, e1, e2, e3, -⟩
          · exact Or.inl e1
          · rw [e1] at c2
            exact absurd c2 (nI_pos (by omega))
        · rcases h2 with ⟨e1, -⟩ | ⟨q, e1, e2, e3, e4, e5⟩
          · rw [e1] at c2
            exact absurd (by decide) c2
          · rw [e1]
            refine Ok.eqb (rd_nI (by omega) (by decide)) ?_
            refine Ok.eqb (rd_nI (by omega) (by decide)) ?_
            rw [(hc k (by omega)).1, (hc q e3).1, (hcw k (by omega)).1, (hcw q e3).1]
            have b1 := (hcw k (by omega)).2
            have b2 := (hcw q e3).2
            refine Ok.ite (fun c3 => ?_) (fun c3 => ?_)
            · exact keep _ e1.symm (Or.inr ⟨q, e1, e3, e4, (n_lt (by omega) (by omega)).mp c3⟩)
            · exact take_ hnk (Or.inr ⟨q, e1, e3, by
                have : ¬ cw cm q < cw cm k := fun z => c3 ((n_lt (by omega) (by omega)).mpr z)
                omega⟩)
      · refine keep _ rfl (Or.inl ?_)
        cases hq : Nat.testBit D k with
        | true => rfl
        | false => exact absurd (hb.mpr hq) c
    · rintro ⟨x, y⟩ ⟨h1, h2⟩
      dsimp only at h1 h2
      subst h1
      unfold f_L_match_l46
      dsimp only
      rw [Nat.sub_self] at h2 ⊢
      refine Ok.pos (by decide) (Ok.of ?_)
      show x = nI r
      rcases h2 with ⟨-, e2⟩ | ⟨q, e1, e2, e3, e4, e5⟩
      · exact absurd (e2 r (by omega) hrm) hrnd
      · have hq1 := e5 r (by omega) hrm hrnd
        obtain ⟨j, hj⟩ := hall q e3
        have hij : i ≤ j := by
          rcases Nat.lt_or_ge j i with z | z
          · exact absurd ((hdone q e3).mpr ((tk_mem _ i q).mpr ⟨j, z, hj⟩)) e4
          · exact z
        have : q = r := by
          rcases Nat.lt_or_ge i j with z | z
          · have := pw_get hpw z hr hj
            unfold Ls at this
            omega
          · have : i = j := by omega
            subst this
            exact Option.some.inj (hj.symm.trans hr)
        rw [e1, this]
  obtain ⟨x, h1, h2⟩ := key
  rw [h1, h2]
/-- what the law writes for a match: the first minute of the exceedance -/
def bm (fs : Nat → Int32) (x : Int32) : Int32 := if x = -1 then -1 else fs x.toInt.toNat
theorem bm_n {fs : Nat → Int32} {e : Nat} (he : e < 1000) : bm fs (nI e) = fs e := by
  unfold bm
  rw [if_neg, i_nI (by omega)]
  · rfl
  · intro q
    have := congrArg Int32.toInt q
    rw [i_nI (by omega)] at this
    have e9 : (-1 : Int32).toInt = -1 := by decide
    omega
theorem bm_1 {fs : Nat → Int32} : bm fs (-1) = -1 := rfl
theorem n_m1 {e : Nat} (he : e < 2147483648) : nI e ≠ -1 := by
  intro q
  have := congrArg Int32.toInt q
  rw [i_nI he] at this
  have e9 : (-1 : Int32).toInt = -1 := by decide
  omega
/-- what a run of matches keeps -/
def MI (E nc : Nat) (done : Nat → Prop) (S : MS) : Prop := (∀ e, e < E → (S.1 e = -1 ↔ ∀ k, k < nc → S.2.1 k ≠ nI e)) ∧ (∀ k, S.2.1 k = -1 ∨ ∃ e, e < E ∧ S.2.1 k = nI e) ∧ ∀ k, ¬ done k → S.2.1 k = -1
theorem MI_step {fs ls pk cm : Nat → Int32} {p : Int32} {E nc k : Nat} {done : Nat → Prop} {S : MS} (hE : E < 1000) (hk : k < nc) (hnc : nc < 1000) (h : MI E nc done S) (hd : ¬ done k) : MI E nc (fun j => done j ∨ j = k) (mStep fs ls pk cm p E S k) := by
  obtain ⟨h1, h2, h3⟩ := h
  have hkm := h3 k hd
  have hle := sBst_le fs ls pk S.1 (cm k) p E
  unfold mStep
  by_cases ht : sBst fs ls pk S.1 (cm k) p E = 0
  · rw [if_pos ht]
    have e9 : upd S.2.1 k (-1) = S.2.1 := by
      funext j
      by_cases hj : j = k
      · rw [hj, upd_s, hkm]
      · rw [upd_n hj]
    refine ⟨?_, ?_, ?_⟩
    · show ∀ e, e < E → (S.1 e = -1 ↔ ∀ j, j < nc → upd S.2.1 k (-1) j ≠ nI e)
      rw [e9]
      exact h1
    · show ∀ j, upd S.2.1 k (-1) j = -1 ∨ _
      rw [e9]
      exact h2
    · intro j hj
      show upd S.2.1 k (-1) j = -1
      rw [e9]
      exact h3 j (fun q => hj (Or.inl q))
  · rw [if_neg ht]
    generalize sBst fs ls pk S.1 (cm k) p E = t at ht hle ⊢
    obtain ⟨t, rfl⟩ : ∃ q, t = q + 1 := ⟨t - 1, by omega⟩
    rw [Nat.add_sub_cancel]
    refine ⟨fun e he => ?_, fun j => ?_, fun j hj => ?_⟩
    · show upd S.1 t (nI k) e = -1 ↔ ∀ j, j < nc → upd S.2.1 k (nI t) j ≠ nI e
      by_cases het : e = t
      · subst het
        rw [upd_s]
        constructor
        · intro q
          exact absurd q (n_m1 (by omega))
        · intro q
          have := q k hk
          rw [upd_s] at this
          exact absurd rfl this
      · rw [upd_n het, h1 e he]
        constructor
        · intro q j hj
          by_cases hjk : j = k
          · rw [hjk, upd_s]
            exact nI_ne (by omega) (by omega) (fun z => het z.symm)
          · rw [upd_n hjk]
            exact q j hj
        · intro q j hj
          by_cases hjk : j = k
          · rw [hjk, hkm]
            exact fun z => n_m1 (by omega) z.symm
          · have := q j hj
            rw [upd_n hjk] at this
            exact this
    · show upd S.2.1 k (nI t) j = -1 ∨ ∃ e, e < E ∧ upd S.2.1 k (nI t) j = nI e
      by_cases hjk : j = k
      · rw [hjk, upd_s]
        exact Or.inr ⟨t, by omega, rfl⟩
      · rw [upd_n hjk]
        exact h2 j
    · show upd S.2.1 k (nI t) j = -1
      rw [upd_n (fun q => hj (Or.inr q))]
      exact h3 j (fun q => hj (Or.inl q))
theorem sBst_stop {fs ls pk co : Nat → Int32} {c p : Int32} {k : Nat} : ∀ d, (∀ e, k ≤ e → e < k + d → ¬ fs e ≤ c) → sBst fs ls pk co c p (k + d) = sBst fs ls pk co c p k
  | 0, _ => rfl
  | d + 1, h => by
    show (if co (k + d) = -1 ∧ fs (k + d) ≤ c ∧ _ then k + d + 1 else sBst fs ls pk co c p (k + d)) = _
    rw [if_neg (fun q => h (k + d) (by omega) (by omega) q.2.1)]
    exact sBst_stop d (fun e h1 h2 => h e h1 (by omega))
