/-! A LINE LEADS ON -/
def okg (i : Nat) (bs : List Int32) (s : Ps) : Prop := i ≤ s.1 ∧ s.1 ≤ bs.length ∧ s.2.2 ≤ bs.length
section
variable {i : Nat} {bs : List Int32} {H : List (List Nat)} {s : Ps}
theorem og_bla {k p : Nat} (h : okg i bs s) (hp : p ≤ bs.length) : okg i bs (bla k p s) := by
  unfold bla; split
  · exact ⟨h.1, h.2.1, hp⟩
  · exact h
theorem og_qp (h : okg i bs s) : qp bs s.1 ≤ bs.length := (qp_le h.2.1).2
theorem og_rfu (h : okg i bs s) : okg i bs (rfu bs s) := og_bla h (og_qp h)
theorem og_adv (h : okg i bs s) : okg i bs (adv bs s) := ⟨by have := (qp_le h.2.1).1; have := (qn_le h.2.1).1; have := h.1; show i ≤ qn bs s.1; omega, (qn_le h.2.1).2, h.2.2⟩
theorem og_advU {c : Prop} [Decidable c] (h : okg i bs s) : okg i bs (advU bs c s) := by
  unfold advU; split
  · exact og_rfu h
  · exact og_adv h
theorem og_tWord {w : Nat} (h : okg i bs s) : okg i bs (tWord bs w s) := by
  unfold tWord; split
  · exact og_adv h
  · exact og_rfu h
theorem og_tSign {w : Nat} (h : okg i bs s) : okg i bs (tSign bs w s) := by
  unfold tSign; split
  · exact og_adv h
  · exact og_rfu h
theorem og_tNum {a b p : Nat} (h : okg i bs s) (hp : p ≤ bs.length) : okg i bs (tNum bs a b p s).2 := by
  unfold tNum; split
  · exact og_rfu h
  · show okg i bs (adv bs (if qv bs s.1 < a ∨ b < qv bs s.1 then bla 4 p s else s))
    split
    · exact og_adv (og_bla h hp)
    · exact og_adv h
theorem og_tSNum {m : Nat} (h : okg i bs s) : okg i bs (tSNum bs m s).2 := by
  unfold tSNum; split
  · exact og_tNum (og_adv h) (og_qp h)
  · exact og_tNum h (og_qp h)
theorem og_tNew (h : okg i bs s) : okg i bs (tNew bs H s).2 := by
  unfold tNew; split
  · exact og_rfu h
  · show okg i bs (adv bs (if qw bs s.1 ∈ H then bla 3 (qp bs s.1) s else s))
    split
    · exact og_adv (og_bla h (og_qp h))
    · exact og_adv h
theorem og_tTold (h : okg i bs s) : okg i bs (tTold bs H s).2 := by
  unfold tTold; split
  · exact og_rfu h
  · split
    · exact og_adv h
    · exact og_bla h (og_qp h)
def ogE (i : Nat) (bs : List Int32) (p : Es → Es) : Prop := ∀ s : Es, okg i bs s.1 → okg i bs (p s).1
theorem og_lps {o : Nat → Option Nat} {p : Es → Es} (hp : ogE i bs p) : ∀ (n : Nat) (s : Es), okg i bs s.1 → okg i bs (lps bs o p n s).1 := by
  intro n
  induction n with
  | zero => intro s h; exact h
  | succ n ih =>
    intro s h
    rw [lps]
    split
    · split
      · exact ih _ (hp _ (og_adv h))
      · exact h
    · exact h
theorem og_U {r : Option (Es → Es)} (hr : ∀ e, r = some e → ogE i bs e) : ogE i bs (pU bs H r) := by
  intro s h
  unfold pU
  split
  · exact og_rfu h
  split
  · exact og_adv h
  split
  · exact og_tTold (og_adv h)
  split
  · exact og_adv h
  split
  · cases hrr : r with
    | none => exact og_rfu h
    | some e => exact og_tSign (hr e hrr (eAdv bs (s.1, s.2.1, s.2.2 + 1)) (og_adv h))
  · exact og_rfu h
theorem og_C {u : Es → Es} (hu : ogE i bs u) : ogE i bs (pC bs u) := by
  have hT : ogE i bs (pT bs u) := fun s h => og_lps hu 40 _ (hu s h)
  have hS : ogE i bs (pS bs u) := fun s h => og_lps hT 40 _ (hT s h)
  intro s h
  unfold pC
  split
  · split
    · exact hS _ (og_adv (hS s h))
    · exact hS s h
  · exact hS s h
theorem og_Ee {o : Es → Es} (ho : ogE i bs o) : ogE i bs (pE bs o) := by
  have hB : ogE i bs (pB bs o) := fun s h => og_lps ho 40 _ (ho s h)
  exact fun s h => og_lps hB 40 _ (hB s h)
theorem og_O : ∀ k, ogE i bs (pO bs H k)
  | 0 => by
    intro s h
    rw [pO]; split
    · exact og_rfu h
    · exact og_C (og_U (fun e q => by cases q)) s h
  | k + 1 => by
    have ih := og_O k
    intro s h
    rw [pO]; split
    · split
      · exact ih _ (og_adv h)
      · exact og_adv h
    · exact og_C (og_U (fun e q => by cases q; exact og_Ee ih)) s h
theorem og_line {B : Bd} (hg : (lLine bs (s, B)).1.2.1 = 0) (h : okg i bs (adv bs s)) : okg i bs (lLine bs (s, B)).1 := by
  have hb4 := rfu_bad (bs := bs) s
  have eLL : lLine bs (s, B) = if qx bs s.1 = 0 then lRail bs (s, B) else if qx bs s.1 = 1 then lHouse bs (s, B) else if qx bs s.1 = 2 then lBeside bs (s, B) else if qx bs s.1 = 3 then lNeck bs (s, B) else if qx bs s.1 = 4 then lDraws bs (s, B) else if qx bs s.1 = 5 then lLaw bs (s, B) else (rfu bs s, B) := rfl
  have aU : ∀ (c : Prop) [Decidable c], ¬ c → advU bs c s = adv bs s := fun c _ hc => by unfold advU; rw [if_neg hc]
  rw [eLL] at hg ⊢
  split at hg
  · rename_i c; rw [if_pos c]
    by_cases f : 5 ≤ (bR B).length
    · rw [lRail_full f] at hg; exact absurd hg hb4
    unfold lRail; simp only [aU _ f]
    exact og_tSign (og_tNum (og_tWord (og_tNew h)) (og_qp (og_tWord (og_tNew h))))
  rename_i c0; rw [if_neg c0]
  split at hg
  · rename_i c; rw [if_pos c]
    by_cases f : 8 ≤ (bH B).length
    · rw [lHouse_full f] at hg; exact absurd hg hb4
    unfold lHouse; simp only [aU _ f]
    have k1 := og_tWord (w := 6) (og_tNew (H := bHn B) h)
    have k2 := og_tWord (w := 7) (og_tNum (a := 1) (b := 9) k1 (og_qp k1))
    have k3 := og_tWord (w := 8) (og_tNum (a := 1) (b := 99) k2 (og_qp k2))
    have k4 := og_tTold (H := bRn B) k3
    apply og_tSign
    split
    · exact og_bla k4 (og_qp k4)
    · exact k4
  rename_i c1; rw [if_neg c1]
  split at hg
  · rename_i c; rw [if_pos c]
    by_cases f : 20 ≤ (bB B).length
    · rw [lBeside_full f] at hg; exact absurd hg hb4
    unfold lBeside; simp only [aU _ f]
    have k1 := og_tTold (H := bHn B) h
    have k2 := og_tTold (H := bHn B) k1
    refine og_tSign (og_tSNum (og_tWord ?_))
    split
    · exact og_bla k2 (og_qp k1)
    · exact k2
  rename_i c2; rw [if_neg c2]
  split at hg
  · rename_i c; rw [if_pos c]
    by_cases f : (bN B).isSome = true
    · rw [lNeck_full f] at hg; exact absurd hg hb4
    unfold lNeck; simp only [aU _ f]; exact og_tSign (og_tNum h (og_qp h))
  rename_i c3; rw [if_neg c3]
  split at hg
  · rename_i c; rw [if_pos c]
    by_cases f : (bD B).isSome = true
    · rw [lDraws_full f] at hg; exact absurd hg hb4
    unfold lDraws; simp only [aU _ f]; exact og_tSign (og_tNum h (og_qp h))
  rename_i c4; rw [if_neg c4]
  split at hg
  · rename_i c; rw [if_pos c]
    by_cases f : (bL B).isSome = true
    · rw [lLaw_full f] at hg; exact absurd hg hb4
    unfold lLaw; simp only [aU _ f]; exact og_tSign (og_Ee (og_O 7) (adv bs s, [], 0) h)
  · exact absurd hg hb4
theorem line_on {B : Bd} (hs : s.1 ≤ bs.length) (h2 : s.2.2 ≤ bs.length) (hk : qk bs s.1 ≠ 0) (hg : (lLine bs (s, B)).1.2.1 = 0) : s.1 < (lLine bs (s, B)).1.1 ∧ okp bs (lLine bs (s, B)).1 := by
  have hn := qn_gt hs hk
  have := og_line (i := s.1 + 1) (bs := bs) hg ⟨by show s.1 + 1 ≤ qn bs s.1; omega, hn.2, h2⟩
  exact ⟨this.1, this.2⟩
end
