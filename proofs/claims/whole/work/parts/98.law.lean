/-- THE PURE PART: the law's function answers 1 on every script, and what it makes fits -/
theorem law_ok : ∀ (L : Nat), L ≤ 3072 → ∀ (xs : Nat → Int32), ∃ (Γf : rhG) (Mf : rhM), f_L_law L xs rhG0 rhM0 = some (1, Γf, Mf) ∧ Γf.1 ≤ 60000 ∧ Γf.2.1 ≤ 8922250 := by
  exact law_from op_town
