/-! A FAULT LIES IN THE TEXT -/
def okp (bs : List Int32) (s : Ps) : Prop := s.1 ≤ bs.length ∧ s.2.2 ≤ bs.length
section
variable {bs : List Int32} {H : List (List Nat)} {s : Ps}
theorem ok_bla {k p : Nat} (h : okp bs s) (hp : p ≤ bs.length) : okp bs (bla k p s) := by
  unfold bla; split
  · exact ⟨h.1, hp⟩
  · exact h
theorem ok_qp (h : okp bs s) : qp bs s.1 ≤ bs.length := (qp_le h.1).2
theorem ok_rfu (h : okp bs s) : okp bs (rfu bs s) := ok_bla h (ok_qp h)
theorem ok_adv (h : okp bs s) : okp bs (adv bs s) := ⟨(qn_le h.1).2, h.2⟩
theorem ok_advU {c : Prop} [Decidable c] (h : okp bs s) : okp bs (advU bs c s) := by
  unfold advU; split
  · exact ok_rfu h
  · exact ok_adv h
theorem ok_tWord {w : Nat} (h : okp bs s) : okp bs (tWord bs w s) := by
  unfold tWord; split
  · exact ok_adv h
  · exact ok_rfu h
theorem ok_tSign {w : Nat} (h : okp bs s) : okp bs (tSign bs w s) := by
  unfold tSign; split
  · exact ok_adv h
  · exact ok_rfu h
theorem ok_tNum {a b p : Nat} (h : okp bs s) (hp : p ≤ bs.length) : okp bs (tNum bs a b p s).2 := by
  unfold tNum; split
  · exact ok_rfu h
  · show okp bs (adv bs (if qv bs s.1 < a ∨ b < qv bs s.1 then bla 4 p s else s))
    split
    · exact ok_adv (ok_bla h hp)
    · exact ok_adv h
theorem ok_tSNum {m : Nat} (h : okp bs s) : okp bs (tSNum bs m s).2 := by
  unfold tSNum; split
  · exact ok_tNum (ok_adv h) (ok_qp h)
  · exact ok_tNum h (ok_qp h)
theorem ok_tNew (h : okp bs s) : okp bs (tNew bs H s).2 := by
  unfold tNew; split
  · exact ok_rfu h
  · show okp bs (adv bs (if qw bs s.1 ∈ H then bla 3 (qp bs s.1) s else s))
    split
    · exact ok_adv (ok_bla h (ok_qp h))
    · exact ok_adv h
theorem ok_tTold (h : okp bs s) : okp bs (tTold bs H s).2 := by
  unfold tTold; split
  · exact ok_rfu h
  · split
    · exact ok_adv h
    · exact ok_bla h (ok_qp h)
def okE (bs : List Int32) (p : Es → Es) : Prop := ∀ s : Es, okp bs s.1 → okp bs (p s).1
theorem ok_lps {o : Nat → Option Nat} {p : Es → Es} (hp : okE bs p) : ∀ (n : Nat) (s : Es), okp bs s.1 → okp bs (lps bs o p n s).1 := by
  intro n
  induction n with
  | zero => intro s h; exact h
  | succ n ih =>
    intro s h
    rw [lps]
    split
    · split
      · exact ih _ (hp _ (ok_adv h))
      · exact h
    · exact h
theorem ok_U {r : Option (Es → Es)} (hr : ∀ e, r = some e → okE bs e) : okE bs (pU bs H r) := by
  intro s h
  unfold pU
  split
  · exact ok_rfu h
  split
  · exact ok_adv h
  split
  · exact ok_tTold (ok_adv h)
  split
  · exact ok_adv h
  split
  · cases hrr : r with
    | none => exact ok_rfu h
    | some e => exact ok_tSign (hr e hrr (eAdv bs (s.1, s.2.1, s.2.2 + 1)) (ok_adv h))
  · exact ok_rfu h
theorem ok_C {u : Es → Es} (hu : okE bs u) : okE bs (pC bs u) := by
  have hT : okE bs (pT bs u) := fun s h => ok_lps hu 40 _ (hu s h)
  have hS : okE bs (pS bs u) := fun s h => ok_lps hT 40 _ (hT s h)
  intro s h
  unfold pC
  split
  · split
    · exact hS _ (ok_adv (hS s h))
    · exact hS s h
  · exact hS s h
theorem ok_Ee {o : Es → Es} (ho : okE bs o) : okE bs (pE bs o) := by
  have hB : okE bs (pB bs o) := fun s h => ok_lps ho 40 _ (ho s h)
  exact fun s h => ok_lps hB 40 _ (hB s h)
theorem ok_O : ∀ k, okE bs (pO bs H k)
  | 0 => by
    intro s h
    rw [pO]; split
    · exact ok_rfu h
    · exact ok_C (ok_U (fun e q => by cases q)) s h
  | k + 1 => by
    have ih := ok_O k
    intro s h
    rw [pO]; split
    · split
      · exact ih _ (ok_adv h)
      · exact ok_adv h
    · exact ok_C (ok_U (fun e q => by cases q; exact ok_Ee ih)) s h
theorem ok_line {B : Bd} (h : okp bs s) : okp bs (lLine bs (s, B)).1 := by
  unfold lLine
  split
  · unfold lRail; exact ok_tSign (ok_tNum (ok_tWord (ok_tNew (ok_advU h))) (ok_qp (ok_tWord (ok_tNew (ok_advU h)))))
  split
  · unfold lHouse
    simp only
    have k1 := ok_tWord (w := 6) (ok_tNew (H := bHn B) (ok_advU (c := 8 ≤ (bH B).length) h))
    have k2 := ok_tWord (w := 7) (ok_tNum (a := 1) (b := 9) k1 (ok_qp k1))
    have k3 := ok_tWord (w := 8) (ok_tNum (a := 1) (b := 99) k2 (ok_qp k2))
    have k4 := ok_tTold (H := bRn B) k3
    apply ok_tSign
    split
    · exact ok_bla k4 (ok_qp k4)
    · exact k4
  split
  · unfold lBeside
    simp only
    have k1 := ok_tTold (H := bHn B) (ok_advU (c := 20 ≤ (bB B).length) h)
    have k2 := ok_tTold (H := bHn B) k1
    refine ok_tSign (ok_tSNum (ok_tWord ?_))
    split
    · exact ok_bla k2 (ok_qp k1)
    · exact k2
  split
  · unfold lNeck; exact ok_tSign (ok_tNum (ok_advU h) (ok_qp (ok_advU h)))
  split
  · unfold lDraws; exact ok_tSign (ok_tNum (ok_advU h) (ok_qp (ok_advU h)))
  split
  · unfold lLaw; exact ok_tSign (ok_Ee (ok_O 7) (advU bs ((bL B).isSome = true) s, [], 0) (ok_advU h))
  · exact ok_rfu h
theorem ok_lines : ∀ (n : Nat) (x : Rs), okp bs x.1 → okp bs (lLines bs n x).1 := by
  intro n
  induction n with
  | zero => intro x h; exact h
  | succ n ih =>
    intro x h
    rw [lLines]
    split
    · exact ih _ (ok_line h)
    · exact h
theorem ok_read : okp bs (read bs).1 := ok_lines 1600 _ ⟨Nat.zero_le _, Nat.zero_le _⟩
end
