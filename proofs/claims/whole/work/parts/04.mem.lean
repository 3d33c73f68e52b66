/-! THE MEMORY: what the cells that a run has made hold, by their numbers (1 is the first cell made, 0 is null) -/
abbrev rhG : Type := Nat × Nat × (Nat → Nat) × (Nat → Nat)
abbrev rhM : Type := (Nat → Nat → Int32) × (Nat → Nat → Int64) × (Nat → Nat → Nat)
abbrev rhV : Type := Int32 ⊕ (Int64 ⊕ (Nat ⊕ Nat))
abbrev rhI (x : Int32) : rhV := Sum.inl x
abbrev rhJ (x : Int64) : rhV := Sum.inr (Sum.inl x)
abbrev rhR (r : Nat) : rhV := Sum.inr (Sum.inr (Sum.inl r))
abbrev rhT (i : Nat) : rhV := Sum.inr (Sum.inr (Sum.inr i))
/-- THE CELLS' NUMBERS: the n-th cell that is made is called nu n; which number is which place is nv -/
def nu (n : Nat) : Nat := if n < 40 then n else if n < 43 then n + 125 else if n < 50 then n - 3 else if n < 53 then n + 118 else if n < 81 then n - 6 else if n < 84 then n + 90 else if n < 91 then n - 9 else if n < 94 then n + 83 else if n < 101 then n - 12 else if n < 104 then n + 76 else if n < 111 then n - 15 else if n < 114 then n + 69 else if n < 183 then n - 18 else n
def nv (r : Nat) : Nat := if r < 40 then r else if r < 47 then r + 3 else if r < 75 then r + 6 else if r < 82 then r + 9 else if r < 89 then r + 12 else if r < 96 then r + 15 else if r < 165 then r + 18 else if r < 168 then r - 125 else if r < 171 then r - 118 else if r < 174 then r - 90 else if r < 177 then r - 83 else if r < 180 then r - 76 else if r < 183 then r - 69 else r
theorem nu_big {n : Nat} (h : 183 ≤ n) : nu n = n := by
  unfold nu
  rw [if_neg (by omega), if_neg (by omega), if_neg (by omega), if_neg (by omega), if_neg (by omega), if_neg (by omega), if_neg (by omega), if_neg (by omega), if_neg (by omega), if_neg (by omega), if_neg (by omega), if_neg (by omega), if_neg (by omega)]
theorem nv_big {n : Nat} (h : 183 ≤ n) : nv n = n := by
  unfold nv
  rw [if_neg (by omega), if_neg (by omega), if_neg (by omega), if_neg (by omega), if_neg (by omega), if_neg (by omega), if_neg (by omega), if_neg (by omega), if_neg (by omega), if_neg (by omega), if_neg (by omega), if_neg (by omega), if_neg (by omega)]
theorem nunv_small : ∀ n, n < 183 → nu (nv n) = n ∧ nv (nu n) = n ∧ nu n < 183 ∧ nv n < 183 := by decide +kernel
theorem nu_nv (n : Nat) : nu (nv n) = n := by
  by_cases h : n < 183
  · exact (nunv_small n h).1
  · rw [nv_big (by omega), nu_big (by omega)]
theorem nv_nu (n : Nat) : nv (nu n) = n := by
  by_cases h : n < 183
  · exact (nunv_small n h).2.1
  · rw [nu_big (by omega), nv_big (by omega)]
theorem nv_inj {a b : Nat} (h : nv a = nv b) : a = b := by rw [← nu_nv a, ← nu_nv b, h]
theorem nv_pos {r : Nat} (h : 1 ≤ nv r) : 1 ≤ r := by
  by_cases h0 : r = 0
  · subst h0; exact absurd h (by decide)
  · omega
theorem nv_pos' {r : Nat} (h : r ≠ 0) : 1 ≤ nv r := by
  have h1 := nu_nv r
  have h2 : nu 0 = 0 := by decide
  by_cases h0 : nv r = 0
  · rw [h0, h2] at h1; omega
  · omega
theorem nu_ne {n r : Nat} (h : r ≠ nu n) : nv r ≠ n := fun e => h (by rw [← e, nu_nv])
theorem nv_ne {n r : Nat} (h : nv r ≠ n) : r ≠ nu n := fun e => h (by rw [e, nv_nu])
/-- base, layouts, classes of the arrays, addresses of what was there before, the script -/
abbrev rhE : Type := Nat × va_G × (Nat → ClassId) × (Nat → Nat) × Nat × (Nat → Int32)
def rhro (E : rhE) (r : Nat) : Option Nat := if r = 0 then none else some (E.1 + (nv r - 1))
def rhv (E : rhE) : rhV → Value
  | .inl x => .int x
  | .inr (.inl x) => .long x
  | .inr (.inr (.inl r)) => va_rf (rhro E r)
  | .inr (.inr (.inr i)) => .ref (E.2.2.2.1 i)
def rhty : Nat → Nat → FieldType
  | 0 => tyX0 | 1 => tyX1 | 2 => tyX2 | 3 => tyX3 | 4 => tyX4 | 5 => tyX5 | 6 => tyX6 | 7 => tyX7 | 8 => tyX8 | 9 => tyX9 | 10 => tyX10 | 11 => tyX11 | _ => tyX12
def rhfn (c : Nat) : Nat := match vwCl[c]? with | some q => q.2.2 | none => 0
def rhfv (E : rhE) (t : FieldType) (M : rhM) (r j : Nat) : Value := match t with
  | .long => .long (M.2.1 r j)
  | .object _ => va_rf (rhro E (M.2.2 r j))
  | .array _ => va_rf (rhro E (M.2.2 r j))
  | _ => .int (M.1 r j)
def rhc (E : rhE) (Γ : rhG) (M : rhM) (r : Nat) : va_E := match Γ.2.2.1 r with
  | 14 => .inl (E.2.2.1 0, Γ.2.2.2 r, .inl (M.1 r))
  | 15 => .inl (E.2.2.1 1, Γ.2.2.2 r, .inl (M.1 r))
  | 16 => .inl (E.2.2.1 2, Γ.2.2.2 r, .inr (.inl (M.2.1 r)))
  | 17 => .inl (E.2.2.1 3, Γ.2.2.2 r, .inl (M.1 r))
  | 18 => .inl (E.2.2.1 4, Γ.2.2.2 r, .inr (.inr (.inr (.inr (fun j => rhro E (M.2.2 r j))))))
  | 19 => .inl (E.2.2.1 5, Γ.2.2.2 r, .inr (.inr (.inr (.inr (fun j => rhro E (M.2.2 r j))))))
  | k => .inr (k - 1, (List.range (rhfn (k - 1))).map (fun j => rhfv E (rhty (k - 1) j) M r j))
def rhw (E : rhE) (Γ : rhG) (M : rhM) : va_W := (List.range Γ.1).map (fun k => (E.1 + k, rhc E Γ M (nu (k + 1))))
def rhad (E : rhE) : Nat → Prop := fun q => E.1 ≤ q
theorem rhw_at {E : rhE} {Γ : rhG} {M : rhM} {r : Nat} (h0 : 1 ≤ nv r) (h1 : nv r ≤ Γ.1) : (rhw E Γ M)[nv r - 1]? = some (E.1 + (nv r - 1), rhc E Γ M r) := by
  rw [rhw, List.getElem?_map, List.getElem?_range (by omega)]
  simp only [Option.map_some, show nv r - 1 + 1 = nv r by omega, nu_nv]
theorem rhw_get {E : rhE} {Γ : rhG} {M : rhM} {k : Nat} {q : Nat × va_E} (h : (rhw E Γ M)[k]? = some q) : k < Γ.1 ∧ q = (E.1 + k, rhc E Γ M (nu (k + 1))) := by
  rw [rhw, List.getElem?_map] at h
  cases hk : (List.range Γ.1)[k]? with
  | none => rw [hk] at h; cases h
  | some j =>
    rw [hk] at h
    obtain ⟨hj, hj2⟩ := List.getElem?_eq_some_iff.mp hk
    simp only [List.length_range] at hj
    simp only [List.getElem_range] at hj2
    subst hj2
    cases h
    exact ⟨hj, rfl⟩
theorem rhw_D {E : rhE} {Γ : rhG} {M : rhM} : va_D (rhad E) (rhw E Γ M) := by
  refine ⟨fun i j p q hi hj h => ?_, fun k q hk => ?_⟩
  · obtain ⟨-, rfl⟩ := rhw_get hi
    obtain ⟨-, rfl⟩ := rhw_get hj
    dsimp only at h
    omega
  · obtain ⟨-, rfl⟩ := rhw_get hk
    exact Nat.le_add_right _ _
/-- the heap holds the memory -/
def rhH (E : rhE) (Γ : rhG) (M : rhM) (H : Heap) : Prop := va_P E.2.1 vwCl (rhw E Γ M) H ∧ H.size = E.1 + Γ.1 ∧ ∀ r, Γ.2.2.1 r ≠ 0 → 1 ≤ nv r ∧ nv r ≤ Γ.1
theorem rhH.cell {E : rhE} {Γ : rhG} {M : rhM} {H : Heap} (h : rhH E Γ M H) {r : Nat} (hr : Γ.2.2.1 r ≠ 0) : (rhw E Γ M)[nv r - 1]? = some (E.1 + (nv r - 1), rhc E Γ M r) := rhw_at (h.2.2 r hr).1 (h.2.2 r hr).2
theorem rhro_pos {E : rhE} {r : Nat} (h : 1 ≤ nv r) : rhro E r = some (E.1 + (nv r - 1)) := by
  have := nv_pos h
  rw [rhro, if_neg (by omega)]
theorem rhv_ref {E : rhE} {r : Nat} (h : 1 ≤ nv r) : rhv E (rhR r) = .ref (E.1 + (nv r - 1)) := by
  show va_rf (rhro E r) = _
  rw [rhro_pos h]; rfl
def rhsi (M : rhM) (r j : Nat) (v : Int32) : rhM := (fun a k => if a = r ∧ k = j then v else M.1 a k, M.2)
def rhsl (M : rhM) (r j : Nat) (v : Int64) : rhM := (M.1, fun a k => if a = r ∧ k = j then v else M.2.1 a k, M.2.2)
def rhsr (M : rhM) (r j : Nat) (v : Nat) : rhM := (M.1, M.2.1, fun a k => if a = r ∧ k = j then v else M.2.2 a k)
theorem rhc_other {E : rhE} {Γ : rhG} {M M' : rhM} {r : Nat} (h1 : M'.1 r = M.1 r) (h2 : M'.2.1 r = M.2.1 r) (h3 : M'.2.2 r = M.2.2 r) : rhc E Γ M' r = rhc E Γ M r := by
  simp only [rhc, h1, h2, h3, rhfv]
theorem rhsi_o (M : rhM) (r j : Nat) (v : Int32) {a : Nat} (h : a ≠ r) : (rhsi M r j v).1 a = M.1 a := by
  funext k; simp [rhsi, h]
theorem rhsl_o (M : rhM) (r j : Nat) (v : Int64) {a : Nat} (h : a ≠ r) : (rhsl M r j v).2.1 a = M.2.1 a := by
  funext k; simp [rhsl, h]
theorem rhsr_o (M : rhM) (r j : Nat) (v : Nat) {a : Nat} (h : a ≠ r) : (rhsr M r j v).2.2 a = M.2.2 a := by
  funext k; simp [rhsr, h]
theorem rhci {E : rhE} {Γ : rhG} {M : rhM} {r j : Nat} {v : Int32} : ∀ a, a ≠ r → rhc E Γ (rhsi M r j v) a = rhc E Γ M a := fun a h => rhc_other (rhsi_o M r j v h) rfl rfl
theorem rhcl {E : rhE} {Γ : rhG} {M : rhM} {r j : Nat} {v : Int64} : ∀ a, a ≠ r → rhc E Γ (rhsl M r j v) a = rhc E Γ M a := fun a h => rhc_other rfl (rhsl_o M r j v h) rfl
theorem rhcr {E : rhE} {Γ : rhG} {M : rhM} {r j : Nat} {v : Nat} : ∀ a, a ≠ r → rhc E Γ (rhsr M r j v) a = rhc E Γ M a := fun a h => rhc_other rfl rfl (rhsr_o M r j v h)
/-- what an object is -/
theorem rhc_obj {E : rhE} {Γ : rhG} {M : rhM} {r c : Nat} (h : Γ.2.2.1 r = c + 1) (hc : c < 13) : rhc E Γ M r = .inr (c, (List.range (rhfn c)).map (fun j => rhfv E (rhty c j) M r j)) := by
  unfold rhc
  rw [h]
  rcases (show c = 0 ∨ c = 1 ∨ c = 2 ∨ c = 3 ∨ c = 4 ∨ c = 5 ∨ c = 6 ∨ c = 7 ∨ c = 8 ∨ c = 9 ∨ c = 10 ∨ c = 11 ∨ c = 12 by omega) with rfl | rfl | rfl | rfl | rfl | rfl | rfl | rfl | rfl | rfl | rfl | rfl | rfl <;> rfl
theorem rhc_B {E : rhE} {Γ : rhG} {M : rhM} {r : Nat} (h : Γ.2.2.1 r = 14) : rhc E Γ M r = .inl (E.2.2.1 0, Γ.2.2.2 r, .inl (M.1 r)) := by unfold rhc; rw [h]; rfl
theorem rhc_I {E : rhE} {Γ : rhG} {M : rhM} {r : Nat} (h : Γ.2.2.1 r = 15) : rhc E Γ M r = .inl (E.2.2.1 1, Γ.2.2.2 r, .inl (M.1 r)) := by unfold rhc; rw [h]; rfl
theorem rhc_J {E : rhE} {Γ : rhG} {M : rhM} {r : Nat} (h : Γ.2.2.1 r = 16) : rhc E Γ M r = .inl (E.2.2.1 2, Γ.2.2.2 r, .inr (.inl (M.2.1 r))) := by unfold rhc; rw [h]; rfl
theorem rhc_Z {E : rhE} {Γ : rhG} {M : rhM} {r : Nat} (h : Γ.2.2.1 r = 17) : rhc E Γ M r = .inl (E.2.2.1 3, Γ.2.2.2 r, .inl (M.1 r)) := by unfold rhc; rw [h]; rfl
theorem rhc_P {E : rhE} {Γ : rhG} {M : rhM} {r : Nat} (h : Γ.2.2.1 r = 18) : rhc E Γ M r = .inl (E.2.2.1 4, Γ.2.2.2 r, .inr (.inr (.inr (.inr (fun j => rhro E (M.2.2 r j)))))) := by unfold rhc; rw [h]; rfl
theorem rhc_S {E : rhE} {Γ : rhG} {M : rhM} {r : Nat} (h : Γ.2.2.1 r = 19) : rhc E Γ M r = .inl (E.2.2.1 5, Γ.2.2.2 r, .inr (.inr (.inr (.inr (fun j => rhro E (M.2.2 r j)))))) := by unfold rhc; rw [h]; rfl
def rhtys (E : rhE) : List (ClassId × FieldType) := [(E.2.2.1 0, .byte), (E.2.2.1 1, .int), (E.2.2.1 2, .long), (E.2.2.1 3, .boolean), (E.2.2.1 4, .object RX3), (E.2.2.1 5, .object RX7)]
/-- the words of the tables that every contract stands on -/
def rhTs : List Cond := lw_tbl.filter goodWord
theorem rhTs_in {w : Cond} (i : Nat) (h : lw_tbl[i]? = some w) (hg : goodWord w = true) : w ∈ rhTs := List.mem_filter.mpr ⟨List.mem_of_getElem? h, hg⟩
theorem rhTs_good (w : Cond) (h : w ∈ rhTs) : (w.onTables && w.keeps) = true ∨ ∃ ty, w = .arrayClass ty := good_of_word (List.mem_filter.mp h).2
