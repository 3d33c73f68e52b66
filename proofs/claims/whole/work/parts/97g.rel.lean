/-! WHAT THE CLASS AND THE REFERENCE HOLD -/
/-- a cell's part: 0 is for what no call leaves to the next; 1 the tape, 2 the fault, 3 the town, 4 the stand, 5 the pulls, 6 the told row, 7 the goal, 8 the laid row, 9 the boxes, 10 the sights, 11 the time, 12 a search, 13 what was counted, 14 the words -/
def idl : List Nat := [99, 99, 1, 2, 0, 14, 0, 0, 0, 0, 0, 3, 3, 3, 3, 3, 3, 3, 3, 3, 0, 0, 3, 3, 3, 3, 3, 3, 3, 3, 3, 0, 0, 4, 4, 4, 4, 0, 0, 0, 0, 0, 0, 0, 0, 0, 0, 5, 5, 6, 6, 8, 8, 9, 99, 99, 10, 10, 10, 10, 10, 10, 99, 0, 0, 13, 13, 13, 0, 0, 0, 0, 0, 0, 0, 0, 0, 0, 0, 0, 0, 0, 0, 0, 0, 0, 0, 0, 0, 0, 0, 0, 0, 0, 0, 0, 9, 9, 9, 9, 9, 9,
  99, 1, 0, 3, 3, 0, 3, 3, 3, 3, 3, 3, 3, 3, 3, 0, 0, 3, 0, 0, 0, 3, 3, 0, 0, 0, 0, 0, 0, 4, 4, 5, 5, 6, 7, 0, 0, 0, 0, 0, 0, 0, 0, 8, 0, 0, 0, 10, 10, 10, 10, 10, 0, 0, 0, 0, 10, 9, 9, 9, 9, 9, 9,
  0, 0, 0, 0, 0, 0, 0, 0, 0, 0, 0, 0, 0, 0, 0, 0, 0, 0]
def i102 : List Nat := [99, 99, 1, 0, 2, 2, 0, 0, 0, 0, 0, 99, 99, 99, 99, 99, 99, 99, 99, 99, 99, 99, 99, 99, 99, 99, 99, 99, 99, 99, 99, 99, 99, 99, 3, 0, 0, 0, 0, 99, 99, 99, 99, 99, 3, 3, 99, 99, 5, 5, 99, 6, 99, 7, 99, 99, 99, 99, 99, 99, 0, 0, 0, 99, 99, 99, 8, 99, 99, 99, 0, 0, 99, 99, 99, 99, 99, 99, 99, 99, 99, 99, 10, 11, 99, 99, 99, 99, 99, 99]
def idc (r k : Nat) : Nat := if r = 1 then (if k = 1 then 1 else if k = 11 then 7 else if k = 16 then 11 else 99) else if r = 55 then (if k = 0 then 10 else if k = 10 ∨ k = 11 then 0 else 99) else if r = 102 then i102.getD k 99 else idl.getD r 12
def idL (r k : Nat) : Nat := if r = 1 then (if k = 10 then 7 else 99) else if r = 102 then 0 else idl.getD r 12
def idR (r k : Nat) : Nat := if r < 165 then (if (r, k) = (1, 3) ∨ (r, k) = (1, 4) then 3 else if (r, k) = (1, 15) then 12 else if (r, k) = (51, 0) then 8 else if (r, k) = (3, 10) ∨ (r, k) = (3, 11) ∨ (r, k) = (4, 1) ∨ (r, k) = (55, 9) ∨ (r, k) = (63, 1) then 0 else 99) else 12
def KP (ids : List Nat) (M M' : rhM) : Prop := (∀ r k, idc r k ∉ ids → M'.1 r k = M.1 r k) ∧ (∀ r k, idL r k ∉ ids → M'.2.1 r k = M.2.1 r k) ∧ ∀ r k, idR r k ∉ ids → M'.2.2 r k = M.2.2 r k
theorem KP.refl (ids : List Nat) (M : rhM) : KP ids M M := ⟨fun _ _ _ => rfl, fun _ _ _ => rfl, fun _ _ _ => rfl⟩
theorem KP.trans {ids : List Nat} {M M' M'' : rhM} (h : KP ids M M') (h2 : KP ids M' M'') : KP ids M M'' :=
  ⟨fun r k hn => (h2.1 r k hn).trans (h.1 r k hn), fun r k hn => (h2.2.1 r k hn).trans (h.2.1 r k hn), fun r k hn => (h2.2.2 r k hn).trans (h.2.2 r k hn)⟩
theorem KP.sub {ids ids' : List Nat} {M M' : rhM} (h : KP ids M M') (hs : ∀ i, i ∈ ids → i ∈ ids') : KP ids' M M' :=
  ⟨fun r k hn => h.1 r k (fun x => hn (hs _ x)), fun r k hn => h.2.1 r k (fun x => hn (hs _ x)), fun r k hn => h.2.2 r k (fun x => hn (hs _ x))⟩
theorem KP.si {ids : List Nat} {M M' : rhM} (h : KP ids M M') {r j : Nat} (v : Int32) (hi : idc r j ∈ ids) : KP ids M (rhsi M' r j v) := by
  refine ⟨fun a k hn => ?_, fun a k hn => h.2.1 a k hn, fun a k hn => h.2.2 a k hn⟩
  rw [si_1, if_neg (fun e => hn (by rw [e.1, e.2]; exact hi))]; exact h.1 a k hn
theorem KP.sl {ids : List Nat} {M M' : rhM} (h : KP ids M M') {r j : Nat} (v : Int64) (hi : idL r j ∈ ids) : KP ids M (rhsl M' r j v) := by
  refine ⟨fun a k hn => by rw [sl_1]; exact h.1 a k hn, fun a k hn => ?_, fun a k hn => by rw [sl_3]; exact h.2.2 a k hn⟩
  rw [sl_2, if_neg (fun e => hn (by rw [e.1, e.2]; exact hi))]; exact h.2.1 a k hn
theorem idc_cell {r : Nat} (h1 : r ≠ 1) (h2 : r ≠ 55) (h3 : r ≠ 102) (k : Nat) : idc r k = idl.getD r 12 := by unfold idc; rw [if_neg h1, if_neg h2, if_neg h3]
theorem idL_cell {r : Nat} (h1 : r ≠ 1) (h3 : r ≠ 102) (k : Nat) : idL r k = idl.getD r 12 := by unfold idL; rw [if_neg h1, if_neg h3]
theorem KP.fr {ids W : List Nat} {M M' : rhM} (hF : Fr W M M') (hW : ∀ r, r ∈ W → r ≠ 1 ∧ r ≠ 55 ∧ r ≠ 102 ∧ idl.getD r 12 ∈ ids) : KP ids M M' := by
  refine ⟨fun r k hn => ?_, fun r k hn => ?_, fun r k _ => by rw [hF.1]⟩
  · by_cases c : r ∈ W
    · obtain ⟨h1, h2, h3, h4⟩ := hW r c
      exact absurd (by rw [idc_cell h1 h2 h3]; exact h4) hn
    · rw [hF.i c]
  · by_cases c : r ∈ W
    · obtain ⟨h1, h2, h3, h4⟩ := hW r c
      exact absurd (by rw [idL_cell h1 h3]; exact h4) hn
    · rw [hF.l c]
/-- for the reference, whose object's fields lie in one cell -/
theorem KP.frM {ids W : List Nat} {M M' : rhM} (hF : Fr W M M') (h0 : 0 ∈ ids) (h102 : ∀ k, idc 102 k ∉ ids → M'.1 102 k = M.1 102 k) (hW : ∀ r, r ∈ W → r = 102 ∨ (r ≠ 1 ∧ r ≠ 55 ∧ r ≠ 102 ∧ idl.getD r 12 ∈ ids)) : KP ids M M' := by
  refine ⟨fun r k hn => ?_, fun r k hn => ?_, fun r k _ => by rw [hF.1]⟩
  · by_cases c : r ∈ W
    · rcases hW r c with rfl | ⟨h1, h2, h3, h4⟩
      · exact h102 k hn
      · exact absurd (by rw [idc_cell h1 h2 h3]; exact h4) hn
    · rw [hF.i c]
  · by_cases c : r ∈ W
    · rcases hW r c with rfl | ⟨h1, h2, h3, h4⟩
      · exact absurd h0 hn
      · exact absurd (by rw [idL_cell h1 h3]; exact h4) hn
    · rw [hF.l c]
theorem KP.i {ids : List Nat} {M M' : rhM} (h : KP ids M M') {r : Nat} (h1 : r ≠ 1) (h2 : r ≠ 55) (h3 : r ≠ 102) (hn : idl.getD r 12 ∉ ids) : M'.1 r = M.1 r := by
  funext k; exact h.1 r k (by rw [idc_cell h1 h2 h3]; exact hn)
theorem KP.l {ids : List Nat} {M M' : rhM} (h : KP ids M M') {r : Nat} (h1 : r ≠ 1) (h3 : r ≠ 102) (hn : idl.getD r 12 ∉ ids) : M'.2.1 r = M.2.1 r := by
  funext k; exact h.2.1 r k (by rw [idL_cell h1 h3]; exact hn)
/-- all that lies outside the reference, or inside of it -/
def KR (M M' : rhM) : Prop := ∀ r, (r < 102 ∨ 165 ≤ r) → M'.1 r = M.1 r ∧ M'.2.1 r = M.2.1 r ∧ M'.2.2 r = M.2.2 r
def KC (M M' : rhM) : Prop := ∀ r, 102 ≤ r → r < 165 → M'.1 r = M.1 r ∧ M'.2.1 r = M.2.1 r ∧ M'.2.2 r = M.2.2 r
theorem KR.fr {W : List Nat} {M M' : rhM} (hF : Fr W M M') (hW : ∀ r, r ∈ W → 102 ≤ r ∧ r < 165) : KR M M' := fun r hr =>
  ⟨hF.i (fun h => by have := hW r h; omega), hF.l (fun h => by have := hW r h; omega), by rw [hF.1]⟩
theorem KC.fr {W : List Nat} {M M' : rhM} (hF : Fr W M M') (hW : ∀ r, r ∈ W → r < 102 ∨ 165 ≤ r) : KC M M' := fun r h1 h2 =>
  ⟨hF.i (fun h => by have := hW r h; omega), hF.l (fun h => by have := hW r h; omega), by rw [hF.1]⟩
theorem KR.refl (M : rhM) : KR M M := fun _ _ => ⟨rfl, rfl, rfl⟩
theorem KC.refl (M : rhM) : KC M M := fun _ _ _ => ⟨rfl, rfl, rfl⟩
theorem KR.trans {M M' M'' : rhM} (h : KR M M') (h2 : KR M' M'') : KR M M'' := fun r hr => ⟨(h2 r hr).1.trans (h r hr).1, (h2 r hr).2.1.trans (h r hr).2.1, (h2 r hr).2.2.trans (h r hr).2.2⟩
theorem KC.trans {M M' M'' : rhM} (h : KC M M') (h2 : KC M' M'') : KC M M'' := fun r hr hr2 => ⟨(h2 r hr hr2).1.trans (h r hr hr2).1, (h2 r hr hr2).2.1.trans (h r hr hr2).2.1, (h2 r hr hr2).2.2.trans (h r hr hr2).2.2⟩
theorem KC.si {M M' : rhM} (h : KC M M') {r j : Nat} (v : Int32) (hr : r < 102 ∨ 165 ≤ r) : KC M (rhsi M' r j v) := fun a h1 h2 =>
  ⟨by rw [← (h a h1 h2).1]; funext k; rw [si_1, if_neg (by omega)], (h a h1 h2).2.1, (h a h1 h2).2.2⟩
theorem KC.sl {M M' : rhM} (h : KC M M') {r j : Nat} (v : Int64) (hr : r < 102 ∨ 165 ≤ r) : KC M (rhsl M' r j v) := fun a h1 h2 =>
  ⟨(h a h1 h2).1, by rw [← (h a h1 h2).2.1]; funext k; rw [sl_2, if_neg (by omega)], (h a h1 h2).2.2⟩
theorem KR.si {M M' : rhM} (h : KR M M') {r j : Nat} (v : Int32) (hr : 102 ≤ r ∧ r < 165) : KR M (rhsi M' r j v) := fun a h1 =>
  ⟨by rw [← (h a h1).1]; funext k; rw [si_1, if_neg (by omega)], (h a h1).2.1, (h a h1).2.2⟩
theorem KR.sl {M M' : rhM} (h : KR M M') {r j : Nat} (v : Int64) (hr : 102 ≤ r ∧ r < 165) : KR M (rhsl M' r j v) := fun a h1 =>
  ⟨(h a h1).1, by rw [← (h a h1).2.1]; funext k; rw [sl_2, if_neg (by omega)], (h a h1).2.2⟩
