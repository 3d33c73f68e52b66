/-! HOW LONG A LAW'S CODE CAN BE -/
/-- c steps a unit, one less if all is well, f more behind a fault -/
def LB (c f : Nat) (p : Es → Es) : Prop := ∀ s, s.1.2.1 = 0 → s.2.2 ≤ (p s).2.2 ∧ ((p s).1.2.1 = 0 → (p s).2.1.length + 1 ≤ s.2.1.length + c * ((p s).2.2 - s.2.2)) ∧ (p s).2.1.length ≤ s.2.1.length + c * ((p s).2.2 - s.2.2) + f
section
variable {bs : List Int32} {H : List (List Nat)}
theorem LB_lps {c f : Nat} {o : Nat → Option Nat} {p : Es → Es} (hp : LB c f p) : ∀ (n : Nat) (s0 s : Es), s.1.2.1 = 0 → s0.2.2 ≤ s.2.2 → s.2.1.length + 1 ≤ s0.2.1.length + c * (s.2.2 - s0.2.2) →
    s0.2.2 ≤ (lps bs o p n s).2.2 ∧ ((lps bs o p n s).1.2.1 = 0 → (lps bs o p n s).2.1.length + 1 ≤ s0.2.1.length + c * ((lps bs o p n s).2.2 - s0.2.2)) ∧ (lps bs o p n s).2.1.length ≤ s0.2.1.length + c * ((lps bs o p n s).2.2 - s0.2.2) + f := by
  intro n
  induction n with
  | zero => intro s0 s hg h1 h2; exact ⟨h1, fun _ => h2, by show s.2.1.length ≤ s0.2.1.length + c * (s.2.2 - s0.2.2) + f; omega⟩
  | succ n ih =>
    intro s0 s hg h1 h2
    rw [lps, if_pos hg]
    cases e : o s.1.1 with
    | none => exact ⟨h1, fun _ => h2, by show s.2.1.length ≤ s0.2.1.length + c * (s.2.2 - s0.2.2) + f; omega⟩
    | some k =>
      have h3 := hp (eAdv bs s) hg
      have e1 : (eAdv bs s).2 = s.2 := rfl
      rw [e1] at h3
      show s0.2.2 ≤ (lps bs o p n (ae k (p (eAdv bs s)))).2.2 ∧ ((lps bs o p n (ae k (p (eAdv bs s)))).1.2.1 = 0 → (lps bs o p n (ae k (p (eAdv bs s)))).2.1.length + 1 ≤ s0.2.1.length + c * ((lps bs o p n (ae k (p (eAdv bs s)))).2.2 - s0.2.2)) ∧ (lps bs o p n (ae k (p (eAdv bs s)))).2.1.length ≤ s0.2.1.length + c * ((lps bs o p n (ae k (p (eAdv bs s)))).2.2 - s0.2.2) + f
      generalize p (eAdv bs s) = s1 at *
      have hm : c * (s1.2.2 - s0.2.2) = c * (s.2.2 - s0.2.2) + c * (s1.2.2 - s.2.2) := by rw [← Nat.mul_add]; congr 1; omega
      have el : (ae k s1).2.1.length = s1.2.1.length + 1 := by show (s1.2.1 ++ [(k, 0)]).length = _; rw [List.length_append]; rfl
      have eu : (ae k s1).2.2 = s1.2.2 := rfl
      by_cases g : s1.1.2.1 = 0
      · have h4 := h3.2.1 g
        exact ih s0 (ae k s1) g (by rw [eu]; omega) (by rw [el, eu, hm]; omega)
      · rw [lps_bad (by exact g), el, eu, hm]
        exact ⟨by omega, fun q => absurd q g, by omega⟩
theorem LB_1 {c f : Nat} {o : Nat → Option Nat} {u p : Es → Es} (hu : LB c f u) (hp : LB c f p) (n : Nat) : LB c f (fun s => lps bs o p n (u s)) := by
  intro s hg
  have h := hu s hg
  by_cases g : (u s).1.2.1 = 0
  · exact LB_lps hp n s (u s) g h.1 (h.2.1 g)
  · have e : lps bs o p n (u s) = u s := lps_bad g n
    simp only [e]; exact h
theorem LB_T {c f : Nat} {u : Es → Es} (h : LB c f u) : LB c f (pT bs u) := LB_1 h h 40
theorem LB_S {c f : Nat} {u : Es → Es} (h : LB c f u) : LB c f (pS bs u) := LB_1 (LB_T h) (LB_T h) 40
theorem LB_B {c f : Nat} {u : Es → Es} (h : LB c f u) : LB c f (pB bs u) := LB_1 h h 40
theorem LB_E {c f : Nat} {u : Es → Es} (h : LB c f u) : LB c f (pE bs u) := LB_1 (LB_B h) (LB_B h) 40
theorem LB_C {c f : Nat} {u : Es → Es} (h : LB c f u) : LB c f (pC bs u) := by
  have hS := LB_S (bs := bs) h
  intro s hg
  have h1 := hS s hg
  unfold pC
  by_cases g : (pS bs u s).1.2.1 = 0
  · rw [if_pos g]
    cases e : oC bs (pS bs u s).1.1 with
    | none => exact h1
    | some k =>
      have h2 := LB_lps (bs := bs) (o := fun _ => some k) hS 1 s (pS bs u s) g h1.1 (h1.2.1 g)
      have e2 : lps bs (fun _ => some k) (pS bs u) 1 (pS bs u s) = ae k (pS bs u (eAdv bs (pS bs u s))) := by rw [lps, if_pos g]; rfl
      rw [e2] at h2; exact h2
  · rw [if_neg g]; exact h1
end
