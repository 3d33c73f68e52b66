section
variable {bs : List Int32} {H : List (List Nat)}
theorem LB.mono {c c' f f' : Nat} {p : Es → Es} (h : LB c f p) (hc : c ≤ c') (hf : f ≤ f') : LB c' f' p := by
  intro s hg
  obtain ⟨h1, h2, h3⟩ := h s hg
  have hm : c * ((p s).2.2 - s.2.2) ≤ c' * ((p s).2.2 - s.2.2) := Nat.mul_le_mul_right _ hc
  exact ⟨h1, fun q => by have := h2 q; omega, by omega⟩
theorem LB_U {c f : Nat} (hc : 2 ≤ c) {r : Option (Es → Es)} (hE : ∀ e, r = some e → LB c f e) : LB c f (pU bs H r) := by
  intro s hg
  have one : ∀ s' : Es, s'.2.1.length = s.2.1.length + 1 → s'.2.2 = s.2.2 + 1 → s.2.2 ≤ s'.2.2 ∧ (s'.1.2.1 = 0 → s'.2.1.length + 1 ≤ s.2.1.length + c * (s'.2.2 - s.2.2)) ∧ s'.2.1.length ≤ s.2.1.length + c * (s'.2.2 - s.2.2) + f := by
    intro s' e1 e2
    have : c * (s'.2.2 - s.2.2) = c := by rw [e2, Nat.add_sub_cancel_left, Nat.mul_one]
    rw [this, e1, e2]
    exact ⟨by omega, fun _ => by omega, by omega⟩
  have bad : ∀ s' : Es, s'.2 = s.2 → s'.1.2.1 ≠ 0 → s.2.2 ≤ s'.2.2 ∧ (s'.1.2.1 = 0 → s'.2.1.length + 1 ≤ s.2.1.length + c * (s'.2.2 - s.2.2)) ∧ s'.2.1.length ≤ s.2.1.length + c * (s'.2.2 - s.2.2) + f := by
    intro s' e1 e2
    rw [e1]
    exact ⟨by omega, fun q => absurd q e2, by omega⟩
  have la : ∀ a b : Nat, (s.2.1 ++ [(a, b)]).length = s.2.1.length + 1 := fun a b => by rw [List.length_append]; rfl
  unfold pU
  by_cases c0 : s.1.2.1 ≠ 0 ∨ 40 ≤ s.2.2
  · rw [if_pos c0]; exact bad _ rfl (rfu_bad s.1)
  rw [if_neg c0]
  by_cases c2 : qk bs s.1.1 = 4
  · rw [if_pos c2]; exact one _ (la _ _) rfl
  rw [if_neg c2]
  by_cases c3 : qx bs s.1.1 = 17
  · rw [if_pos c3]; exact one _ (la _ _) rfl
  rw [if_neg c3]
  by_cases c4 : isGv (qx bs s.1.1) = true
  · rw [if_pos c4]; exact one _ (la _ _) rfl
  rw [if_neg c4]
  by_cases c5 : qs bs s.1.1 = 40
  · rw [if_pos c5]
    cases hrr : r with
    | none => exact bad _ rfl (rfu_bad s.1)
    | some e =>
      obtain ⟨h1, h2, h3⟩ := hE e hrr (eAdv bs (s.1, s.2.1, s.2.2 + 1)) hg
      have h1 : s.2.2 + 1 ≤ (e (eAdv bs (s.1, s.2.1, s.2.2 + 1))).2.2 := h1
      have h2 : (e (eAdv bs (s.1, s.2.1, s.2.2 + 1))).1.2.1 = 0 → (e (eAdv bs (s.1, s.2.1, s.2.2 + 1))).2.1.length + 1 ≤ s.2.1.length + c * ((e (eAdv bs (s.1, s.2.1, s.2.2 + 1))).2.2 - (s.2.2 + 1)) := h2
      have h3 : (e (eAdv bs (s.1, s.2.1, s.2.2 + 1))).2.1.length ≤ s.2.1.length + c * ((e (eAdv bs (s.1, s.2.1, s.2.2 + 1))).2.2 - (s.2.2 + 1)) + f := h3
      show s.2.2 ≤ (e (eAdv bs (s.1, s.2.1, s.2.2 + 1))).2.2 ∧ ((tSign bs 41 (e (eAdv bs (s.1, s.2.1, s.2.2 + 1))).1).2.1 = 0 → (e (eAdv bs (s.1, s.2.1, s.2.2 + 1))).2.1.length + 1 ≤ s.2.1.length + c * ((e (eAdv bs (s.1, s.2.1, s.2.2 + 1))).2.2 - s.2.2)) ∧ (e (eAdv bs (s.1, s.2.1, s.2.2 + 1))).2.1.length ≤ s.2.1.length + c * ((e (eAdv bs (s.1, s.2.1, s.2.2 + 1))).2.2 - s.2.2) + f
      generalize e (eAdv bs (s.1, s.2.1, s.2.2 + 1)) = s1 at *
      have hm : c * (s1.2.2 - (s.2.2 + 1)) ≤ c * (s1.2.2 - s.2.2) := Nat.mul_le_mul_left _ (by omega)
      exact ⟨by omega, fun q => by have := h2 (tSign_good q).1; omega, by omega⟩
  · rw [if_neg c5]; exact bad _ rfl (rfu_bad s.1)
/-- units stay in bounds; what is at fault stays so -/
def UB (p : Es → Es) : Prop := ∀ s, (s.2.2 ≤ 40 → (p s).2.2 ≤ 40) ∧ (s.1.2.1 ≠ 0 → (p s).1.2.1 ≠ 0 ∧ (p s).2 = s.2) ∧ s.2.1.length ≤ (p s).2.1.length
theorem UB_lps {o : Nat → Option Nat} {p : Es → Es} (hp : UB p) : ∀ (n : Nat) (s : Es), (s.2.2 ≤ 40 → (lps bs o p n s).2.2 ≤ 40) ∧ s.2.1.length ≤ (lps bs o p n s).2.1.length := by
  intro n
  induction n with
  | zero => intro s; exact ⟨fun h => h, Nat.le_refl _⟩
  | succ n ih =>
    intro s
    rw [lps]
    split
    · split
      · rename_i c _
        have h1 := ih (ae c (p (eAdv bs s)))
        have h2 := hp (eAdv bs s)
        refine ⟨fun h => h1.1 (h2.1 h), ?_⟩
        have e : (ae c (p (eAdv bs s))).2.1.length = (p (eAdv bs s)).2.1.length + 1 := by show ((p (eAdv bs s)).2.1 ++ [(c, 0)]).length = _; rw [List.length_append]; rfl
        have h3 : s.2.1.length ≤ (p (eAdv bs s)).2.1.length := h2.2.2
        omega
      · exact ⟨fun h => h, Nat.le_refl _⟩
    · exact ⟨fun h => h, Nat.le_refl _⟩
theorem UB_1 {o : Nat → Option Nat} {u p : Es → Es} (hu : UB u) (hp : UB p) (n : Nat) : UB (fun s => lps bs o p n (u s)) := by
  intro s
  refine ⟨fun h => (UB_lps hp n _).1 ((hu s).1 h), fun h => ?_, Nat.le_trans (hu s).2.2 (UB_lps hp n _).2⟩
  have := (hu s).2.1 h
  simp only [lps_bad this.1 n]; exact this
theorem UB_T {u : Es → Es} (h : UB u) : UB (pT bs u) := UB_1 h h 40
theorem UB_S {u : Es → Es} (h : UB u) : UB (pS bs u) := UB_1 (UB_T h) (UB_T h) 40
theorem UB_B {u : Es → Es} (h : UB u) : UB (pB bs u) := UB_1 h h 40
theorem UB_E {u : Es → Es} (h : UB u) : UB (pE bs u) := UB_1 (UB_B h) (UB_B h) 40
theorem UB_C {u : Es → Es} (h : UB u) : UB (pC bs u) := by
  have hS := UB_S (bs := bs) h
  intro s
  unfold pC
  refine ⟨fun q => ?_, fun q => ?_, ?_⟩
  · split
    · split
      · exact (hS _).1 ((hS _).1 q)
      · exact (hS _).1 q
    · exact (hS _).1 q
  · have := (hS s).2.1 q
    rw [if_neg this.1]; exact this
  · split
    · split
      · rename_i c _
        have e : (ae c (pS bs u (eAdv bs (pS bs u s)))).2.1.length = (pS bs u (eAdv bs (pS bs u s))).2.1.length + 1 := by show ((pS bs u (eAdv bs (pS bs u s))).2.1 ++ [(c, 0)]).length = _; rw [List.length_append]; rfl
        have h1 := (hS s).2.2
        have h2 : (pS bs u s).2.1.length ≤ _ := (hS (eAdv bs (pS bs u s))).2.2
        omega
      · exact (hS s).2.2
    · exact (hS s).2.2
theorem UB_U {r : Option (Es → Es)} (hE : ∀ e, r = some e → UB e) : UB (pU bs H r) := by
  intro s
  unfold pU
  have la : ∀ a b : Nat, s.2.1.length ≤ (s.2.1 ++ [(a, b)]).length := fun a b => by rw [List.length_append]; omega
  refine ⟨fun q => ?_, fun q => ?_, ?_⟩
  · by_cases c0 : s.1.2.1 ≠ 0 ∨ 40 ≤ s.2.2
    · rw [if_pos c0]; exact q
    have q1 : s.2.2 + 1 ≤ 40 := by omega
    rw [if_neg c0]
    split
    · exact q1
    split
    · exact q1
    split
    · exact q1
    split
    · cases hrr : r with
      | none => exact q
      | some e => exact (hE e hrr (eAdv bs (s.1, s.2.1, s.2.2 + 1))).1 q1
    · exact q
  · rw [if_pos (Or.inl q)]; exact ⟨rfu_bad s.1, rfl⟩
  · split
    · exact Nat.le_refl _
    split
    · exact la _ _
    split
    · exact la _ _
    split
    · exact la _ _
    split
    · cases hrr : r with
      | none => exact Nat.le_refl _
      | some e => exact (hE e hrr (eAdv bs (s.1, s.2.1, s.2.2 + 1))).2.2
    · exact Nat.le_refl _
theorem LB_O : ∀ k, LB (k + 2) k (pO bs H k) ∧ UB (pO bs H k)
  | 0 => by
    have hL : LB 2 0 (pU bs H none) := LB_U (by decide) (fun e h => by cases h)
    have hB : UB (pU bs H none) := UB_U (fun e h => by cases h)
    refine ⟨fun s hg => ?_, fun s => ?_⟩
    · rw [pO]
      by_cases c : qx bs s.1.1 = 12
      · rw [if_pos c]; exact ⟨Nat.le_refl _, fun q => absurd q (rfu_bad s.1), by show s.2.1.length ≤ s.2.1.length + _ + 0; omega⟩
      · rw [if_neg c]; exact LB_C hL s hg
    · rw [pO]
      by_cases c : qx bs s.1.1 = 12
      · rw [if_pos c]; exact ⟨fun q => q, fun q => ⟨rfu_bad s.1, rfl⟩, Nat.le_refl _⟩
      · rw [if_neg c]; exact UB_C hB s
  | k + 1 => by
    obtain ⟨h1, h2⟩ := LB_O k
    have hE1 : LB (k + 2) k (pE bs (pO bs H k)) := LB_E h1
    have hL : LB (k + 1 + 2) (k + 1) (pU bs H (some (pE bs (pO bs H k)))) := LB_U (by omega) (fun e h => by cases h; exact hE1.mono (by omega) (by omega))
    have hB : UB (pU bs H (some (pE bs (pO bs H k)))) := UB_U (fun e h => by cases h; exact UB_E h2)
    refine ⟨fun s hg => ?_, fun s => ?_⟩
    · rw [pO]
      by_cases c : qx bs s.1.1 = 12
      · rw [if_pos c, if_pos hg]
        obtain ⟨g1, g2, g3⟩ := h1 (eAdv bs s) hg
        have e1 : (eAdv bs s).2 = s.2 := rfl
        have g4 := (h2 (eAdv bs s)).2.2
        rw [e1] at g1 g2 g3 g4
        generalize pO bs H k (eAdv bs s) = s1 at *
        have el : (ae 12 s1).2.1.length = s1.2.1.length + 1 := by show (s1.2.1 ++ [(12, 0)]).length = _; rw [List.length_append]; rfl
        have eu : (ae 12 s1).2.2 = s1.2.2 := rfl
        have eg : (ae 12 s1).1 = s1.1 := rfl
        rw [el, eu, eg]
        by_cases d : s1.2.2 = s.2.2
        · have z : ∀ x, x * (s1.2.2 - s.2.2) = 0 := fun x => by rw [d, Nat.sub_self, Nat.mul_zero]
          rw [z] at g2 g3
          rw [z]
          refine ⟨g1, fun q => ?_, by omega⟩
          have := g2 q
          omega
        · have hm : (k + 1 + 2) * (s1.2.2 - s.2.2) = (k + 2) * (s1.2.2 - s.2.2) + (s1.2.2 - s.2.2) := by rw [show k + 1 + 2 = (k + 2) + 1 from by omega, Nat.add_mul, Nat.one_mul]
          rw [hm]
          exact ⟨g1, fun q => by have := g2 q; omega, by omega⟩
      · rw [if_neg c]; exact LB_C hL s hg
    · rw [pO]
      by_cases c : qx bs s.1.1 = 12
      · rw [if_pos c]
        refine ⟨fun q => ?_, fun q => ?_, ?_⟩
        · split
          · exact (h2 _).1 q
          · exact q
        · rw [if_neg q]; exact ⟨q, rfl⟩
        · split
          · have e : (ae 12 (pO bs H k (eAdv bs s))).2.1.length = (pO bs H k (eAdv bs s)).2.1.length + 1 := by show ((pO bs H k (eAdv bs s)).2.1 ++ [(12, 0)]).length = _; rw [List.length_append]; rfl
            have h3 : s.2.1.length ≤ _ := (h2 (eAdv bs s)).2.2
            omega
          · exact Nat.le_refl _
      · rw [if_neg c]; exact UB_C hB s
/-- room for a law's code -/
def PE (s : Es) : Prop := s.2.2 ≤ 40 ∧ (s.1.2.1 = 0 → s.2.1.length + 9 * (40 - s.2.2) ≤ 400)
def LQ (p : Es → Es) : Prop := (∀ s, PE s → PE (p s)) ∧ ∀ s, PE s → s.1.2.1 = 0 → (p s).2.1.length ≤ 410 ∧ ∀ c, PE (ae c (p s))
theorem LQ_of {p : Es → Es} {c f : Nat} (h : LB c f p) (hc : c ≤ 9) (hf : f ≤ 9) (hB : UB p) : LQ p := by
  have main : ∀ s, PE s → s.1.2.1 = 0 → (p s).2.1.length ≤ 410 ∧ (p s).2.2 ≤ 40 ∧ ((p s).1.2.1 = 0 → (p s).2.1.length + 1 + 9 * (40 - (p s).2.2) ≤ 400) := by
    intro s hs hg
    obtain ⟨h1, h2, h3⟩ := h.mono hc hf s hg
    have h4 := hs.2 hg
    have h5 := (hB s).1 hs.1
    exact ⟨by omega, h5, fun q => by have := h2 q; omega⟩
  refine ⟨fun s hs => ?_, fun s hs hg => ?_⟩
  · by_cases hg : s.1.2.1 = 0
    · have := main s hs hg
      exact ⟨this.2.1, fun q => by have := this.2.2 q; omega⟩
    · have := (hB s).2.1 hg
      exact ⟨by rw [this.2]; exact hs.1, fun q => absurd q this.1⟩
  · have := main s hs hg
    refine ⟨this.1, fun c => ⟨this.2.1, fun q => ?_⟩⟩
    have h6 := this.2.2 q
    show ((p s).2.1 ++ [(c, 0)]).length + 9 * (40 - (p s).2.2) ≤ 400
    rw [List.length_append]; exact h6
theorem LQ_U {r : Option (Es → Es)} {k : Nat} (hk : k ≤ 7) (hE : ∀ e, r = some e → ∃ j, j < k ∧ e = pE bs (pO bs H j)) : LQ (pU bs H r) ∧ LQ (pT bs (pU bs H r)) ∧ LQ (pS bs (pU bs H r)) := by
  have h1 : LB 9 7 (pU bs H r) := LB_U (by decide) (fun e h => by obtain ⟨j, h1, h2⟩ := hE e h; rw [h2]; exact (LB_E (LB_O j).1).mono (by omega) (by omega))
  have h2 : UB (pU bs H r) := UB_U (fun e h => by obtain ⟨j, h1, h2⟩ := hE e h; rw [h2]; exact UB_E (LB_O j).2)
  exact ⟨LQ_of h1 (by decide) (by decide) h2, LQ_of (LB_T h1) (by decide) (by decide) (UB_T h2), LQ_of (LB_S h1) (by decide) (by decide) (UB_S h2)⟩
theorem LQ_O {k : Nat} (hk : k ≤ 7) : LQ (pO bs H k) ∧ LQ (pB bs (pO bs H k)) ∧ LQ (pE bs (pO bs H k)) := by
  obtain ⟨h1, h2⟩ := LB_O (bs := bs) (H := H) k
  have h1 := h1.mono (c' := 9) (f' := 7) (by omega) (by omega)
  exact ⟨LQ_of h1 (by decide) (by decide) h2, LQ_of (LB_B h1) (by decide) (by decide) (UB_B h2), LQ_of (LB_E h1) (by decide) (by decide) (UB_E h2)⟩
end
