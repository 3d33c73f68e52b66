/-! THE MEMORY: what the cells that a run has made hold, by their numbers (1 is the first cell made, 0 is null) -/
abbrev rhG : Type := Nat × Nat × (Nat → Nat) × (Nat → Nat)
abbrev rhM : Type := (Nat → Nat → Int32) × (Nat → Nat → Int64) × (Nat → Nat → Nat)
abbrev rhV : Type := Int32 ⊕ (Int64 ⊕ (Nat ⊕ Nat))
abbrev rhI (x : Int32) : rhV := Sum.inl x
abbrev rhJ (x : Int64) : rhV := Sum.inr (Sum.inl x)
abbrev rhR (r : Nat) : rhV := Sum.inr (Sum.inr (Sum.inl r))
abbrev rhT (i : Nat) : rhV := Sum.inr (Sum.inr (Sum.inr i))
/-- base, layouts, classes of the arrays, addresses of what was there before, the script -/
abbrev rhE : Type := Nat × va_G × (Nat → ClassId) × (Nat → Nat) × Nat × (Nat → Int32)
def rhro (E : rhE) (r : Nat) : Option Nat := if r = 0 then none else some (E.1 + (r - 1))
def rhv (E : rhE) : rhV → Value
  | .inl x => .int x
  | .inr (.inl x) => .long x
  | .inr (.inr (.inl r)) => va_rf (rhro E r)
  | .inr (.inr (.inr i)) => .ref (E.2.2.2.1 i)
def rhty : Nat → Nat → FieldType
  | 0 => tyX0 | 1 => tyX1 | 2 => tyX2 | 3 => tyX3 | 4 => tyX4 | 5 => tyX5 | 6 => tyX6 | 7 => tyX7 | 8 => tyX8 | 9 => tyX9 | 10 => tyX10 | 11 => tyX11 | _ => tyX12
def rhfn (c : Nat) : Nat := match vwCl[c]? with | some q => q.2.2 | none => 0
def rhfv (E : rhE) (t : FieldType) (M : rhM) (r j : Nat) : Value := match t with
  | .long => .long (M.2.1 r j)
  | .object _ => va_rf (rhro E (M.2.2 r j))
  | .array _ => va_rf (rhro E (M.2.2 r j))
  | _ => .int (M.1 r j)
def rhc (E : rhE) (Γ : rhG) (M : rhM) (r : Nat) : va_E := match Γ.2.2.1 r with
  | 14 => .inl (E.2.2.1 0, Γ.2.2.2 r, .inl (M.1 r))
  | 15 => .inl (E.2.2.1 1, Γ.2.2.2 r, .inl (M.1 r))
  | 16 => .inl (E.2.2.1 2, Γ.2.2.2 r, .inr (.inl (M.2.1 r)))
  | 17 => .inl (E.2.2.1 3, Γ.2.2.2 r, .inl (M.1 r))
  | 18 => .inl (E.2.2.1 4, Γ.2.2.2 r, .inr (.inr (.inr (.inr (fun j => rhro E (M.2.2 r j))))))
  | 19 => .inl (E.2.2.1 5, Γ.2.2.2 r, .inr (.inr (.inr (.inr (fun j => rhro E (M.2.2 r j))))))
  | k => .inr (k - 1, (List.range (rhfn (k - 1))).map (fun j => rhfv E (rhty (k - 1) j) M r j))
def rhw (E : rhE) (Γ : rhG) (M : rhM) : va_W := (List.range Γ.1).map (fun k => (E.1 + k, rhc E Γ M (k + 1)))
def rhad (E : rhE) : Nat → Prop := fun q => E.1 ≤ q
theorem rhw_at {E : rhE} {Γ : rhG} {M : rhM} {r : Nat} (h0 : 1 ≤ r) (h1 : r ≤ Γ.1) : (rhw E Γ M)[r - 1]? = some (E.1 + (r - 1), rhc E Γ M r) := by
  rw [rhw, List.getElem?_map, List.getElem?_range (by omega)]
  simp only [Option.map_some, show r - 1 + 1 = r by omega]
theorem rhw_get {E : rhE} {Γ : rhG} {M : rhM} {k : Nat} {q : Nat × va_E} (h : (rhw E Γ M)[k]? = some q) : k < Γ.1 ∧ q = (E.1 + k, rhc E Γ M (k + 1)) := by
  rw [rhw, List.getElem?_map] at h
  cases hk : (List.range Γ.1)[k]? with
  | none => rw [hk] at h; cases h
  | some j =>
    rw [hk] at h
    obtain ⟨hj, hj2⟩ := List.getElem?_eq_some_iff.mp hk
    simp only [List.length_range] at hj
    simp only [List.getElem_range] at hj2
    subst hj2
    cases h
    exact ⟨hj, rfl⟩
theorem rhw_D {E : rhE} {Γ : rhG} {M : rhM} : va_D (rhad E) (rhw E Γ M) := by
  refine ⟨fun i j p q hi hj h => ?_, fun k q hk => ?_⟩
  · obtain ⟨-, rfl⟩ := rhw_get hi
    obtain ⟨-, rfl⟩ := rhw_get hj
    dsimp only at h
    omega
  · obtain ⟨-, rfl⟩ := rhw_get hk
    exact Nat.le_add_right _ _
/-- the heap holds the memory -/
def rhH (E : rhE) (Γ : rhG) (M : rhM) (H : Heap) : Prop := va_P E.2.1 vwCl (rhw E Γ M) H ∧ H.size = E.1 + Γ.1 ∧ ∀ r, Γ.2.2.1 r ≠ 0 → 1 ≤ r ∧ r ≤ Γ.1
theorem rhH.cell {E : rhE} {Γ : rhG} {M : rhM} {H : Heap} (h : rhH E Γ M H) {r : Nat} (hr : Γ.2.2.1 r ≠ 0) : (rhw E Γ M)[r - 1]? = some (E.1 + (r - 1), rhc E Γ M r) := rhw_at (h.2.2 r hr).1 (h.2.2 r hr).2
theorem rhro_pos {E : rhE} {r : Nat} (h : 1 ≤ r) : rhro E r = some (E.1 + (r - 1)) := by rw [rhro, if_neg (by omega)]
theorem rhv_ref {E : rhE} {r : Nat} (h : 1 ≤ r) : rhv E (rhR r) = .ref (E.1 + (r - 1)) := by
  show va_rf (rhro E r) = _
  rw [rhro_pos h]; rfl
/-- one cell has changed -/
theorem rhH.set {E : rhE} {Γ : rhG} {M M' : rhM} {H H1 : Heap} (h : rhH E Γ M H) {r : Nat} (h0 : 1 ≤ r) (h1 : r ≤ Γ.1) (ho : ∀ r', r' ≠ r → rhc E Γ M' r' = rhc E Γ M r')
    (hc : va_at E.2.1 vwCl (E.1 + (r - 1), rhc E Γ M' r) H1) (hz : H1.size = H.size) (oq : ∀ q : Nat, q ≠ E.1 + (r - 1) → H1[q]? = H[q]?) : rhH E Γ M' H1 := by
  refine ⟨fun k q hk => ?_, hz.trans h.2.1, h.2.2⟩
  obtain ⟨hk1, rfl⟩ := rhw_get hk
  by_cases e : k + 1 = r
  · subst e
    exact hc
  · rw [ho _ e]
    refine (h.1 k (E.1 + k, rhc E Γ M (k + 1)) ?_).kept (oq _ (by show E.1 + k ≠ E.1 + (r - 1); omega))
    have := rhw_at (E := E) (Γ := Γ) (M := M) (r := k + 1) (by omega) (by omega)
    rw [show k + 1 - 1 = k by omega] at this
    exact this
/-- one cell is new -/
theorem rhH.push {E : rhE} {Γ Γ' : rhG} {M M' : rhM} {H H1 : Heap} (h : rhH E Γ M H) (hg : Γ'.1 = Γ.1 + 1) (hk : ∀ r, Γ'.2.2.1 r ≠ 0 → 1 ≤ r ∧ r ≤ Γ.1 + 1) (ho : ∀ r', r' ≠ Γ.1 + 1 → rhc E Γ' M' r' = rhc E Γ M r')
    (hc : va_at E.2.1 vwCl (E.1 + Γ.1, rhc E Γ' M' (Γ.1 + 1)) H1) (hz : H1.size = H.size + 1) (oq : ∀ q : Nat, q < H.size → H1[q]? = H[q]?) : rhH E Γ' M' H1 := by
  refine ⟨fun k q hq => ?_, by rw [hz, h.2.1, hg]; omega, by rw [hg]; exact hk⟩
  obtain ⟨hk1, rfl⟩ := rhw_get hq
  by_cases e : k = Γ.1
  · subst e
    exact hc
  · rw [ho _ (by omega)]
    have h2 : k + 1 ≤ Γ.1 := by omega
    refine (h.1 k (E.1 + k, rhc E Γ M (k + 1)) ?_).kept (oq _ (by show E.1 + k < H.size; rw [h.2.1]; omega))
    have := rhw_at (E := E) (Γ := Γ) (M := M) (r := k + 1) (by omega) (by omega)
    rw [show k + 1 - 1 = k by omega] at this
    exact this
def rhsi (M : rhM) (r j : Nat) (v : Int32) : rhM := (fun a k => if a = r ∧ k = j then v else M.1 a k, M.2)
def rhsl (M : rhM) (r j : Nat) (v : Int64) : rhM := (M.1, fun a k => if a = r ∧ k = j then v else M.2.1 a k, M.2.2)
def rhsr (M : rhM) (r j : Nat) (v : Nat) : rhM := (M.1, M.2.1, fun a k => if a = r ∧ k = j then v else M.2.2 a k)
theorem rhc_other {E : rhE} {Γ : rhG} {M M' : rhM} {r : Nat} (h1 : M'.1 r = M.1 r) (h2 : M'.2.1 r = M.2.1 r) (h3 : M'.2.2 r = M.2.2 r) : rhc E Γ M' r = rhc E Γ M r := by
  simp only [rhc, h1, h2, h3, rhfv]
theorem rhsi_o (M : rhM) (r j : Nat) (v : Int32) {a : Nat} (h : a ≠ r) : (rhsi M r j v).1 a = M.1 a := by
  funext k; simp [rhsi, h]
theorem rhsl_o (M : rhM) (r j : Nat) (v : Int64) {a : Nat} (h : a ≠ r) : (rhsl M r j v).2.1 a = M.2.1 a := by
  funext k; simp [rhsl, h]
theorem rhsr_o (M : rhM) (r j : Nat) (v : Nat) {a : Nat} (h : a ≠ r) : (rhsr M r j v).2.2 a = M.2.2 a := by
  funext k; simp [rhsr, h]
theorem rhci {E : rhE} {Γ : rhG} {M : rhM} {r j : Nat} {v : Int32} : ∀ a, a ≠ r → rhc E Γ (rhsi M r j v) a = rhc E Γ M a := fun a h => rhc_other (rhsi_o M r j v h) rfl rfl
theorem rhcl {E : rhE} {Γ : rhG} {M : rhM} {r j : Nat} {v : Int64} : ∀ a, a ≠ r → rhc E Γ (rhsl M r j v) a = rhc E Γ M a := fun a h => rhc_other rfl (rhsl_o M r j v h) rfl
theorem rhcr {E : rhE} {Γ : rhG} {M : rhM} {r j : Nat} {v : Nat} : ∀ a, a ≠ r → rhc E Γ (rhsr M r j v) a = rhc E Γ M a := fun a h => rhc_other rfl rfl (rhsr_o M r j v h)
/-- what an object is -/
theorem rhc_obj {E : rhE} {Γ : rhG} {M : rhM} {r c : Nat} (h : Γ.2.2.1 r = c + 1) (hc : c < 13) : rhc E Γ M r = .inr (c, (List.range (rhfn c)).map (fun j => rhfv E (rhty c j) M r j)) := by
  unfold rhc
  rw [h]
  rcases (show c = 0 ∨ c = 1 ∨ c = 2 ∨ c = 3 ∨ c = 4 ∨ c = 5 ∨ c = 6 ∨ c = 7 ∨ c = 8 ∨ c = 9 ∨ c = 10 ∨ c = 11 ∨ c = 12 by omega) with rfl | rfl | rfl | rfl | rfl | rfl | rfl | rfl | rfl | rfl | rfl | rfl | rfl <;> rfl
theorem rhc_B {E : rhE} {Γ : rhG} {M : rhM} {r : Nat} (h : Γ.2.2.1 r = 14) : rhc E Γ M r = .inl (E.2.2.1 0, Γ.2.2.2 r, .inl (M.1 r)) := by unfold rhc; rw [h]; rfl
theorem rhc_I {E : rhE} {Γ : rhG} {M : rhM} {r : Nat} (h : Γ.2.2.1 r = 15) : rhc E Γ M r = .inl (E.2.2.1 1, Γ.2.2.2 r, .inl (M.1 r)) := by unfold rhc; rw [h]; rfl
theorem rhc_J {E : rhE} {Γ : rhG} {M : rhM} {r : Nat} (h : Γ.2.2.1 r = 16) : rhc E Γ M r = .inl (E.2.2.1 2, Γ.2.2.2 r, .inr (.inl (M.2.1 r))) := by unfold rhc; rw [h]; rfl
theorem rhc_Z {E : rhE} {Γ : rhG} {M : rhM} {r : Nat} (h : Γ.2.2.1 r = 17) : rhc E Γ M r = .inl (E.2.2.1 3, Γ.2.2.2 r, .inl (M.1 r)) := by unfold rhc; rw [h]; rfl
theorem rhc_P {E : rhE} {Γ : rhG} {M : rhM} {r : Nat} (h : Γ.2.2.1 r = 18) : rhc E Γ M r = .inl (E.2.2.1 4, Γ.2.2.2 r, .inr (.inr (.inr (.inr (fun j => rhro E (M.2.2 r j)))))) := by unfold rhc; rw [h]; rfl
theorem rhc_S {E : rhE} {Γ : rhG} {M : rhM} {r : Nat} (h : Γ.2.2.1 r = 19) : rhc E Γ M r = .inl (E.2.2.1 5, Γ.2.2.2 r, .inr (.inr (.inr (.inr (fun j => rhro E (M.2.2 r j)))))) := by unfold rhc; rw [h]; rfl
def rhtys (E : rhE) : List (ClassId × FieldType) := [(E.2.2.1 0, .byte), (E.2.2.1 1, .int), (E.2.2.1 2, .long), (E.2.2.1 3, .boolean), (E.2.2.1 4, .object RX3), (E.2.2.1 5, .object RX7)]
/-- the words of the tables that every contract stands on -/
def rhTs : List Cond := lw_tbl.filter goodWord
theorem rhTs_in {w : Cond} (i : Nat) (h : lw_tbl[i]? = some w) (hg : goodWord w = true) : w ∈ rhTs := List.mem_filter.mpr ⟨List.mem_of_getElem? h, hg⟩
theorem rhTs_good (w : Cond) (h : w ∈ rhTs) : (w.onTables && w.keeps) = true ∨ ∃ ty, w = .arrayClass ty := good_of_word (List.mem_filter.mp h).2
