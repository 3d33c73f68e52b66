/-! THE TOWN THAT WAS TOLD -/
theorem gd1 {α : Type} (d x : α) : ∀ (l : List α) (k : Nat), (l ++ [x]).getD k d = if k = l.length then x else l.getD k d
  | [], 0 => rfl
  | [], k + 1 => rfl
  | a :: l, 0 => rfl
  | a :: l, k + 1 => by
    rw [List.cons_append, List.getD_cons_succ, List.getD_cons_succ, gd1 d x l k, List.length_cons]
    by_cases c : k = l.length
    · rw [if_pos c, if_pos (by omega)]
    · rw [if_neg c, if_neg (by omega)]
def hX (B : Bd) (h : Nat) : List Nat × Nat × Nat × Nat := (bH B).getD h ([], 0, 0, 0)
def hL (B : Bd) (h : Nat) : Nat := (hX B h).2.1
def hW (B : Bd) (h : Nat) : Nat := (hX B h).2.2.1
def hR (B : Bd) (h : Nat) : Nat := (hX B h).2.2.2
def isPr (a b : Nat) (x : Nat × Nat × Int) : Bool := decide ((x.1 = a ∧ x.2.1 = b) ∨ (x.1 = b ∧ x.2.1 = a))
def bW (B : Bd) (a b : Nat) : Int := (((bB B).filter (isPr a b)).map fun x => x.2.2).sum
def bC (B : Bd) : List (Nat × Nat) × Nat := (bL B).getD ([], 0)
def bT (B : Bd) : Tn := (((bR B).length, (bH B).length, (bN B).getD 999, (bD B).getD 999), bLen B, hL B, hW B, bW B, hR B, (bC B).1, (bC B).2)
def PW (B : Bd) : Prop := ((bR B).length ≤ 5 ∧ (bH B).length ≤ 8 ∧ (bB B).length ≤ 20) ∧ (∀ r, r < (bR B).length → 1 ≤ bLen B r ∧ bLen B r ≤ 99) ∧ (∀ h, h < (bH B).length → 1 ≤ hL B h ∧ hL B h ≤ 9 ∧ 1 ≤ hW B h ∧ hW B h ≤ 99 ∧ hR B h < (bR B).length) ∧
  (∀ a b, -99 ≤ bW B a b ∧ bW B a b ≤ 99) ∧ ((bN B).getD 999 ≤ 999 ∧ (bD B).getD 999 ≤ 999) ∧ (∀ e, bL B = some e → lawD e.1 0 = some 1 ∧ cdOk e.1 8 ∧ e.1.length ≤ 400 ∧ e.2 ≤ 40)
theorem PW_0 : PW b0 := by
  refine ⟨⟨by decide, by decide, by decide⟩, fun r h => (by cases h), fun r h => (by cases h), fun a b => (by show -99 ≤ (0 : Int) ∧ (0 : Int) ≤ 99; omega), ⟨by decide, by decide⟩, fun e h => (by cases h)⟩
theorem PW_T {B : Bd} (h : PW B) : TWf (bT B) ∧ (0 < tH (bT B) → 0 < tR (bT B)) ∧ (∀ r, r < tR (bT B) → tL (bT B) r ≤ 200) := by
  obtain ⟨⟨h1, h2, h3⟩, h4, h5, h6, ⟨h7, h8⟩, h9⟩ := h
  refine ⟨⟨h1, h2, h7, h8, fun r hr => by have := (h4 r hr).2; show bLen B r ≤ 300; omega, h5, h6, ?_, ?_, ?_, ?_⟩, fun hp => ?_, fun r hr => by have := (h4 r hr).2; show bLen B r ≤ 200; omega⟩
  · show (bC B).1 = [] ∨ lawD (bC B).1 0 = some 1
    unfold bC
    cases e : bL B with
    | none => exact Or.inl rfl
    | some v => exact Or.inr (h9 v e).1
  · show ∀ o, o ∈ (bC B).1 → _
    unfold bC
    cases e : bL B with
    | none => intro o ho; cases ho
    | some v => exact (h9 v e).2.1
  · show (bC B).1.length ≤ 400
    unfold bC
    cases e : bL B with
    | none => decide
    | some v => exact (h9 v e).2.2.1
  · show (bC B).2 ≤ 40
    unfold bC
    cases e : bL B with
    | none => decide
    | some v => exact (h9 v e).2.2.2
  · have := (h5 0 hp).2.2.2.2
    show 0 < (bR B).length
    omega
theorem hX_add (B : Bd) (x : List Nat × Nat × Nat × Nat) (h : Nat) : hX (bR B, bH B ++ [x], B.2.2) h = if h = (bH B).length then x else hX B h := gd1 _ _ _ _
theorem bLen_add (B : Bd) (x : List Nat × Nat) (r : Nat) : bLen (bR B ++ [x], B.2) r = if r = (bR B).length then x.2 else bLen B r := by
  show ((bR B ++ [x]).map fun x => x.2).getD r 0 = _
  rw [List.map_append, List.map_cons, List.map_nil, gd1, List.length_map]; rfl
theorem bW_add (B : Bd) (x : Nat × Nat × Int) (a b : Nat) (hn : bIs B x.1 x.2.1 = false) : bW (bR B, bH B, bB B ++ [x], B.2.2.2) a b = (if isPr a b x = true then x.2.2 else bW B a b) ∧ (bIs (bR B, bH B, bB B ++ [x], B.2.2.2) a b = if isPr a b x = true then true else bIs B a b) := by
  have e1 : bW (bR B, bH B, bB B ++ [x], B.2.2.2) a b = (((bB B ++ [x]).filter (isPr a b)).map fun x => x.2.2).sum := rfl
  have e2 : bIs (bR B, bH B, bB B ++ [x], B.2.2.2) a b = (bB B ++ [x]).any (isPr a b) := rfl
  rw [e1, e2, List.filter_append, List.map_append, List.sum_append_int, List.any_append]
  by_cases c : isPr a b x = true
  · rw [if_pos c, if_pos c]
    have hno : ∀ y, y ∈ bB B → isPr a b y = false := by
      intro y hy
      unfold bIs at hn
      rw [List.any_eq_false] at hn
      have h1 := hn y hy
      rw [decide_eq_true_eq] at h1
      unfold isPr at c ⊢
      rw [decide_eq_true_eq] at c
      rw [decide_eq_false_iff_not]
      omega
    have e3 : (bB B).filter (isPr a b) = [] := by
      rw [List.filter_eq_nil_iff]
      intro y hy; rw [hno y hy]; decide
    rw [e3, List.filter_cons_of_pos c]
    simp [c]
  · rw [if_neg c, if_neg c, List.filter_cons_of_neg c]
    have c' : isPr a b x = false := by simpa using c
    simp only [c', List.filter_nil, List.map_nil, List.sum_nil, Int.add_zero, List.any_cons, List.any_nil, Bool.or_false]; exact ⟨rfl, rfl⟩
section
variable {bs : List Int32} {s : Ps} {B : Bd}
theorem pw_rail (hP : PW B) (h : (lRail bs (s, B)).1.2.1 = 0) : PW (lRail bs (s, B)).2 ∧ (bR B).length < 5 := by
  unfold lRail at h ⊢
  simp only at h ⊢
  generalize hn : tNew bs (bRn B) (advU bs (5 ≤ (bR B).length) s) = n at *
  generalize hl : tNum bs 1 99 (qp bs (tWord bs 6 n.2).1) (tWord bs 6 n.2) = l at *
  have g1 := (tSign_good h).1
  rw [← hl] at g1
  obtain ⟨g2, g3, g4, g5, g6⟩ := tNum_good g1
  have g7 := (tWord_good g2).1
  rw [← hn] at g7
  have g8 := (advU_good (tNew_good g7).1).2.1
  obtain ⟨⟨h1, h2, h3⟩, h4, h5, h6, h7, h9⟩ := hP
  have el : l.1 = qv bs (tWord bs 6 n.2).1 := by rw [← hl, g6]
  refine ⟨⟨⟨?_, h2, h3⟩, fun r hr => ?_, fun k hk => ?_, h6, h7, h9⟩, by omega⟩
  · show (bR B ++ [(n.1, l.1)]).length ≤ 5
    rw [List.length_append, List.length_singleton]; omega
  · rw [bLen_add]
    split
    · show 1 ≤ l.1 ∧ l.1 ≤ 99
      omega
    · rename_i c
      refine h4 r ?_
      have hr : r < (bR B ++ [(n.1, l.1)]).length := hr
      rw [List.length_append, List.length_singleton] at hr; omega
  · have := h5 k hk
    refine ⟨this.1, this.2.1, this.2.2.1, this.2.2.2.1, ?_⟩
    show hR B k < (bR B ++ [(n.1, l.1)]).length
    rw [List.length_append, List.length_singleton]; omega
theorem pw_house (hP : PW B) (h : (lHouse bs (s, B)).1.2.1 = 0) : PW (lHouse bs (s, B)).2 ∧ (bH B).length < 8 := by
  unfold lHouse at h ⊢
  simp only at h ⊢
  generalize hn : tNew bs (bHn B) (advU bs (8 ≤ (bH B).length) s) = n at *
  generalize hl : tNum bs 1 9 (qp bs (tWord bs 6 n.2).1) (tWord bs 6 n.2) = l at *
  generalize hw : tNum bs 1 99 (qp bs (tWord bs 7 l.2).1) (tWord bs 7 l.2) = w at *
  generalize hr : tTold bs (bRn B) (tWord bs 8 w.2) = r at *
  have g0 := (tSign_good h).1
  have ga : r.2.2.1 = 0 := by
    split at g0
    · exact absurd g0 (bla_bad 6 _ (by decide) _)
    · exact g0
  rw [← hr] at ga
  obtain ⟨gb, -, gc, gd, ge⟩ := tTold_good ga
  have gf := (tWord_good gb).1
  rw [← hw] at gf
  obtain ⟨gg, -, gh, gi, gj⟩ := tNum_good gf
  have g1 := (tWord_good gg).1
  rw [← hl] at g1
  obtain ⟨g2, g3, g4, g5, g6⟩ := tNum_good g1
  have g7 := (tWord_good g2).1
  rw [← hn] at g7
  have g8 := (advU_good (tNew_good g7).1).2.1
  obtain ⟨⟨h1, h2, h3⟩, h4, h5, h6, h7, h9⟩ := hP
  have el : l.1 = qv bs (tWord bs 6 n.2).1 := by rw [← hl, g6]
  have ew : w.1 = qv bs (tWord bs 7 l.2).1 := by rw [← hw, gj]
  have er : r.1 < (bR B).length := by
    rw [← hr, gd]
    have : (bRn B).length = (bR B).length := List.length_map _
    show (bRn B).idxOf _ < _
    omega
  refine ⟨⟨⟨h1, ?_, h3⟩, h4, fun k hk => ?_, h6, h7, h9⟩, by omega⟩
  · show (bH B ++ [(n.1, l.1, w.1, r.1)]).length ≤ 8
    rw [List.length_append, List.length_singleton]; omega
  · unfold hL hW hR
    rw [hX_add]
    split
    · show 1 ≤ l.1 ∧ l.1 ≤ 9 ∧ 1 ≤ w.1 ∧ w.1 ≤ 99 ∧ r.1 < (bR B).length
      omega
    · refine h5 k ?_
      have hk : k < (bH B ++ [(n.1, l.1, w.1, r.1)]).length := hk
      rw [List.length_append, List.length_singleton] at hk; omega
theorem bs_good (h : (lBeside bs (s, B)).1.2.1 = 0) : (bB B).length < 20 ∧ ∃ a b w, (lBeside bs (s, B)).2 = (bR B, bH B, bB B ++ [(a, b, w)], B.2.2.2) ∧ a < (bH B).length ∧ b < (bH B).length ∧ a ≠ b ∧ bIs B a b = false ∧ -99 ≤ w ∧ w ≤ 99 := by
  unfold lBeside at h ⊢
  simp only at h ⊢
  generalize ha : tTold bs (bHn B) (advU bs (20 ≤ (bB B).length) s) = a at *
  generalize hb : tTold bs (bHn B) a.2 = b at *
  have g0 := (tSign_good h).1
  obtain ⟨g1, g2, g3, -⟩ := tSNum_good g0
  have g4 := (tWord_good g1).1
  have hc : ¬ (a.1 = b.1 ∨ bIs B a.1 b.1 = true) := by
    intro c
    rw [if_pos c] at g4; exact absurd g4 (bla_bad 3 _ (by decide) _)
  rw [if_neg hc] at g4
  rw [← hb] at g4
  obtain ⟨k1, -, -, k2, k3⟩ := tTold_good g4
  rw [← ha] at k1
  obtain ⟨m1, -, -, m2, m3⟩ := tTold_good k1
  have ml : (bHn B).length = (bH B).length := List.length_map _
  have ea : a.1 < (bH B).length := by
    rw [← ha, m2]
    show (bHn B).idxOf _ < _
    omega
  have eb : b.1 < (bH B).length := by
    rw [← hb, k2]
    show (bHn B).idxOf _ < _
    omega
  exact ⟨by have := (advU_good m1).2.1; omega, a.1, b.1, _, rfl, ea, eb, fun q => hc (Or.inl q), by simpa using fun q => hc (Or.inr q), g2, g3⟩
theorem pw_beside (hP : PW B) (h : (lBeside bs (s, B)).1.2.1 = 0) : PW (lBeside bs (s, B)).2 := by
  obtain ⟨g0, a, b, w, e, ha, hb, -, hi, h1, h2⟩ := bs_good h
  rw [e]
  obtain ⟨⟨k1, k2, k3⟩, h4, h5, h6, h7, h9⟩ := hP
  refine ⟨⟨k1, k2, ?_⟩, h4, h5, fun x y => ?_, h7, h9⟩
  · show (bB B ++ [(a, b, w)]).length ≤ 20
    rw [List.length_append, List.length_singleton]; omega
  · rw [(bW_add B (a, b, w) x y hi).1]
    split
    · exact ⟨h1, h2⟩
    · exact h6 x y
theorem pw_neck (hP : PW B) (h : (lNeck bs (s, B)).1.2.1 = 0) : PW (lNeck bs (s, B)).2 := by
  unfold lNeck at h ⊢
  simp only at h ⊢
  obtain ⟨h1, h2, h3, h4, h5⟩ := tNum_good (tSign_good h).1
  obtain ⟨k1, k2, k3, k4, k5, k6⟩ := hP
  refine ⟨k1, k2, k3, k4, ⟨?_, k5.2⟩, k6⟩
  rw [h5]; exact h4
theorem pw_draws (hP : PW B) (h : (lDraws bs (s, B)).1.2.1 = 0) : PW (lDraws bs (s, B)).2 := by
  unfold lDraws at h ⊢
  simp only at h ⊢
  obtain ⟨h1, h2, h3, h4, h5⟩ := tNum_good (tSign_good h).1
  obtain ⟨k1, k2, k3, k4, k5, k6⟩ := hP
  refine ⟨k1, k2, k3, k4, ⟨k5.1, ?_⟩, k6⟩
  rw [h5]; exact h4
theorem pEk_st {H : List (List Nat)} {k : Nat} {s : Es} (h : s.1.2.1 ≠ 0) : (pEk bs H k s).1.2 = s.1.2 ∧ (pEk bs H k s).2 = s.2 := by
  refine ⟨?_, ((UB_E (LB_O k).2 s).2.1 h).2⟩
  have hU : ∀ r, pU bs H r s = s := fun r => by
    unfold pU; rw [if_pos (Or.inl h)]
    show (rfu bs s.1, s.2) = s
    rw [rfu_st h]
  have hC : ∀ r, pC bs (pU bs H r) s = s := fun r => by
    have e1 : pT bs (pU bs H r) s = s := by unfold pT; rw [hU, lps_bad h]
    have e2 : pS bs (pU bs H r) s = s := by unfold pS; rw [e1, lps_bad h]
    unfold pC; rw [e2, if_neg h]
  have hO : (pO bs H k s).1.2 = s.1.2 := by
    cases k with
    | zero =>
      rw [pO]; split
      · show (rfu bs s.1).2 = _
        rw [rfu_st h]
      · rw [hC]
    | succ k =>
      rw [pO]; split
      · rfl
      · rw [hC]
  have hO2 : (pO bs H k s).1.2.1 ≠ 0 := by rw [hO]; exact h
  unfold pEk pE
  have e1 : pB bs (pO bs H k) s = pO bs H k s := by unfold pB; rw [lps_bad hO2]
  rw [e1, lps_bad hO2, hO]
theorem pEk_good {H : List (List Nat)} {k : Nat} {s : Es} (h : (pEk bs H k s).1.2.1 = 0) : s.1.2.1 = 0 := by
  apply Classical.byContradiction
  intro q
  rw [(pEk_st q).1] at h; exact q h
theorem pw_law (hP : PW B) (h : (lLaw bs (s, B)).1.2.1 = 0) : PW (lLaw bs (s, B)).2 := by
  unfold lLaw at h ⊢
  simp only at h ⊢
  have g := (tSign_good h).1
  obtain ⟨⟨k0, k1, k2⟩, k3, k4, k5, k6, k7⟩ := hP
  have hl : (bHn B).length = (bH B).length := List.length_map _
  have hg : (advU bs ((bL B).isSome = true) s).2.1 = 0 := pEk_good (s := (advU bs ((bL B).isSome = true) s, [], 0)) g
  have := law_good (by omega) hg g
  refine ⟨⟨k0, k1, k2⟩, k3, k4, k5, k6, fun e he => ?_⟩
  have he : some (pEk bs (bHn B) 7 (advU bs ((bL B).isSome = true) s, [], 0)).2 = some e := he
  cases he
  exact ⟨this.1, fun o ho => ⟨(this.2.1 o ho).1, fun z => by have := (this.2.1 o ho).2 z; omega⟩, this.2.2⟩
theorem pw_line (hP : PW B) (h : (lLine bs (s, B)).1.2.1 = 0) : PW (lLine bs (s, B)).2 := by
  unfold lLine at h ⊢
  by_cases c0 : qx bs s.1 = 0
  · simp only [c0, if_true] at h ⊢; exact (pw_rail hP h).1
  by_cases c1 : qx bs s.1 = 1
  · simp only [c0, c1, if_true, if_false] at h ⊢; exact (pw_house hP h).1
  by_cases c2 : qx bs s.1 = 2
  · simp only [c0, c1, c2, if_true, if_false] at h ⊢; exact pw_beside hP h
  by_cases c3 : qx bs s.1 = 3
  · simp only [c0, c1, c2, c3, if_true, if_false] at h ⊢; exact pw_neck hP h
  by_cases c4 : qx bs s.1 = 4
  · simp only [c0, c1, c2, c3, c4, if_true, if_false] at h ⊢; exact pw_draws hP h
  by_cases c5 : qx bs s.1 = 5
  · simp only [c0, c1, c2, c3, c4, c5, if_true, if_false] at h ⊢; exact pw_law hP h
  · simp only [c0, c1, c2, c3, c4, c5, if_false] at h; exact absurd h (rfu_bad s)
end
