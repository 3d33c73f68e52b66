/-! WHAT IS SOUGHT -/
theorem dg_take : ∀ (l : List Nat) (n : Nat), (∀ x, x ∈ l → x < 16) → dg l % 2 ^ (4 * n) = dg (l.take n)
  | [], n, _ => by simp [dg]
  | x :: l, 0, _ => by simp [dg, Nat.mod_one]
  | x :: l, n + 1, h => by
    have h1 := dg_take l n (fun y hy => h y (List.mem_cons_of_mem _ hy))
    have h2 := h x List.mem_cons_self
    have hm : 0 < 2 ^ (4 * n) := Nat.pow_pos (by decide)
    rw [List.take_succ_cons, dg, dg, ← h1, show 4 * (n + 1) = 4 + 4 * n by omega, Nat.pow_add, Nat.mod_mul]
    rw [show (2 : Nat) ^ 4 = 16 by decide, show (x + 16 * dg l) % 16 = x by omega, show (x + 16 * dg l) / 16 = dg l by omega]
theorem pre8 {g x : List Nat} {B : Ar} (h8 : ∀ z, z ∈ g → z ≠ 8) : g <+: x ++ fl [8] B ↔ g <+: x := by
  constructor
  · intro h
    rcases List.prefix_or_prefix_of_prefix h (List.prefix_append x (fl [8] B)) with h2 | h2
    · exact h2
    · obtain ⟨z, rfl⟩ := h2
      have h3 := (List.prefix_append_right_inj x).mp h
      cases z with
      | nil => rw [List.append_nil]; exact List.prefix_refl _
      | cons a z =>
        cases B with
        | nil => simp [fl] at h3
        | cons b B =>
          rw [fl_cons, List.append_assoc, List.singleton_append, List.cons_prefix_cons] at h3
          exact absurd h3.1 (h8 a (by simp))
  · intro h; exact h.trans (List.prefix_append _ _)
theorem goal_met {R H : Nat} {L : Ar} {g : List Nat} (wL : WA R H L) (hR : R ≤ 5) (hH : H ≤ 8) (hRH : 0 < H → 0 < R) (h8 : ∀ z, z ∈ g → z < 8) (hl : g.length ≤ H) :
    (jl (wn L) &&& jl (2 ^ (4 * g.length) - 1) = jl (dg g)) ↔ g <+: rl L 0 := by
  have h16 := dgs_16 wL hH
  have hlen := dgs_len wL
  have hg16 : ∀ z, z ∈ g → z < 16 := fun z hz => by have := h8 z hz; omega
  have hb := wn_lt wL hR hH
  have hgl := dg_lt hg16
  have hgb : 2 ^ (4 * g.length) ≤ 2 ^ 32 := pow_le (by omega)
  rw [jl_and, Nat.and_two_pow_sub_one_eq_mod, wn, dg_take _ _ h16]
  have ht16 : ∀ z, z ∈ (dgs L).take g.length → z < 16 := fun z hz => h16 z (List.mem_of_mem_take hz)
  have htl : ((dgs L).take g.length).length = g.length := by rw [List.length_take, hlen]; omega
  have htb := dg_lt ht16
  rw [htl] at htb
  rw [jl_inj (by omega) (by omega)]
  have e1 : dg ((dgs L).take g.length) = dg g ↔ (dgs L).take g.length = g := ⟨fun h => dg_inj ht16 hg16 htl h, fun h => by rw [h]⟩
  rw [e1]
  have e2 : (dgs L).take g.length = g ↔ g <+: dgs L := by rw [List.prefix_iff_eq_take]; exact eq_comm
  rw [e2]
  rcases fl8_eq L with ⟨a, b⟩ | ⟨x, B, a, b⟩
  · rw [b, a, rl_nil]
  · rw [b, a, rl_zero]
    exact pre8 (fun z hz => by have := h8 z hz; omega)
def adjB (h : Nat) : List Nat → Bool
  | a :: b :: l => ((a == h && b != 8) || (b == h && a != 8)) || adjB h (b :: l)
  | _ => false
theorem adjB_app {h : Nat} (hh : h < 8) (y : List Nat) : ∀ x : List Nat, adjB h (x ++ 8 :: y) = (adjB h x || adjB h y)
  | [] => by
    cases y with
    | nil => rfl
    | cons b l =>
      have : (8 == h) = false := by simp; omega
      simp [adjB, this]
  | [a] => by
    have e := adjB_app hh y []
    rw [List.nil_append] at e
    have : (8 == h) = false := by simp; omega
    rw [List.singleton_append]
    show ((a == h && (8 : Nat) != 8) || ((8 : Nat) == h && a != 8) || adjB h (8 :: y)) = _
    rw [e, this]; simp [adjB]
  | a :: b :: l => by
    have e := adjB_app hh y (b :: l)
    rw [List.cons_append, List.cons_append, adjB, adjB]
    rw [List.cons_append] at e
    rw [e]
    simp only [Bool.or_assoc]
theorem adjB_nd {h : Nat} (hh : h < 8) : ∀ {x : List Nat}, (∀ z, z ∈ x → z < 8) → (adjB h x = true ↔ h ∈ x ∧ 2 ≤ x.length)
  | [], _ => by simp [adjB]
  | [a], _ => by simp [adjB]
  | a :: b :: l, hx => by
    have ih := adjB_nd hh (x := b :: l) (fun z hz => hx z (List.mem_cons_of_mem _ hz))
    have ha := hx a List.mem_cons_self
    have hb := hx b (by simp)
    rw [adjB, Bool.or_eq_true, ih]
    have e1 : (b != 8) = true := by simp; omega
    have e2 : (a != 8) = true := by simp; omega
    rw [e1, e2, Bool.and_true, Bool.and_true, Bool.or_eq_true, beq_iff_eq, beq_iff_eq]
    simp only [List.mem_cons, List.length_cons]
    constructor
    · rintro ((h | h) | h)
      · exact ⟨Or.inl h.symm, by omega⟩
      · exact ⟨Or.inr (Or.inl h.symm), by omega⟩
      · exact ⟨Or.inr h.1, by omega⟩
    · rintro ⟨h | h | h, -⟩
      · exact Or.inl (Or.inl h.symm)
      · exact Or.inl (Or.inr h.symm)
      · cases l with
        | nil => cases h
        | cons c l => exact Or.inr ⟨Or.inr h, by simp⟩
def pA (h : Nat) (L : Ar) : Prop := ∀ x, x ∈ L → h ∈ x → x.length ≤ 1
theorem adjB_one {h : Nat} (hh : h < 8) {x : List Nat} (hx : ∀ z, z ∈ x → z < 8) : adjB h x = false ↔ pA h [x] := by
    have := adjB_nd hh hx
    unfold pA
    simp only [List.mem_singleton, forall_eq]
    constructor
    · intro e hm
      rw [e] at this
      by_cases c : 2 ≤ x.length
      · exact absurd (this.mpr ⟨hm, c⟩) (by decide)
      · omega
    · intro e
      cases hb : adjB h x with
      | false => rfl
      | true => have := this.mp hb; have := e this.1; omega
theorem adjB_fl {h : Nat} (hh : h < 8) : ∀ {L : Ar} {x : List Nat}, (∀ z, z ∈ x → z < 8) → (∀ y, y ∈ L → ∀ z, z ∈ y → z < 8) → (adjB h (x ++ fl [8] L) = false ↔ pA h (x :: L))
  | [], x, hx, _ => by
    rw [fl_nil, List.append_nil]
    exact adjB_one hh hx
  | y :: L, x, hx, hL => by
    have ih := adjB_fl hh (L := L) (x := y) (hL y List.mem_cons_self) (fun z hz => hL z (List.mem_cons_of_mem _ hz))
    have h1 := adjB_one hh hx
    rw [fl_cons, List.singleton_append, List.cons_append, adjB_app hh, Bool.or_eq_false_iff, h1, ih]
    unfold pA
    constructor
    · intro ⟨a, b⟩ z hz
      rcases List.mem_cons.mp hz with rfl | hz
      · exact a z List.mem_cons_self
      · exact b z hz
    · intro a
      exact ⟨fun z hz => a z (by rw [List.mem_singleton] at hz; rw [hz]; exact List.mem_cons_self), fun z hz => a z (List.mem_cons_of_mem _ hz)⟩
theorem adjB_dgs {R H h : Nat} {L : Ar} (wL : WA R H L) (hH : H ≤ 8) (hh : h < 8) : adjB h (dgs L) = false ↔ pA h L := by
  have h8 : ∀ y, y ∈ L → ∀ z, z ∈ y → z < 8 := fun y hy z hz => by
    have : z ∈ fl [] L := by rw [fl, List.mem_flatMap]; exact ⟨y, hy, by simpa using hz⟩
    have := wL.lt.mp this; omega
  rcases fl8_eq L with ⟨a, b⟩ | ⟨x, B, a, b⟩
  · rw [b, a]; simp [adjB, pA]
  · rw [b, a]; rw [a] at h8
    exact adjB_fl hh (h8 x List.mem_cons_self) (fun y hy => h8 y (List.mem_cons_of_mem _ hy))
/-! the best -/
def bestS (T : Tn) (b : Int × Int × Nat) (L : Ar) : Int × Int × Nat := if b.1 = -1 ∨ b.2.1 < worth T L then (b.2.2, worth T L, b.2.2 + 1) else (b.1, b.2.1, b.2.2 + 1)
def bestF (T : Tn) (l : List Ar) : Int × Int × Nat := l.foldl (bestS T) (-1, 0, 0)
theorem bestF_snoc (T : Tn) (l : List Ar) (L : Ar) : bestF T (l ++ [L]) = bestS T (bestF T l) L := by simp [bestF]
theorem worthL_rng {W : Nat → Nat → Int} (hW : ∀ a b, -99 ≤ W a b ∧ W a b ≤ 99) : ∀ l : List Nat, -(99 * l.length : Int) ≤ worthL W l ∧ worthL W l ≤ 99 * l.length
  | [] => by simp [worthL]
  | [a] => by simp [worthL]
  | a :: b :: l => by
    have := worthL_rng hW (b :: l)
    have h := hW a b
    rw [worthL]; simp only [List.length_cons] at *; omega
theorem worth_rng {T : Tn} (hw : TWf T) {L : Ar} (wL : WA (tR T) (tH T) L) (hRH : 0 < tH T → 0 < tR T) : -800 ≤ worth T L ∧ worth T L ≤ 800 := by
  have h1 := worthL_rng hw.2.2.2.2.2.2.1 (rl L 0)
  have h2 : (rl L 0).length ≤ 8 := by
    by_cases h : 0 < tR T
    · have := wL.rl_len h; have := hw.2.1; omega
    · have := wL.1
      rw [List.length_eq_zero_iff.mp (show L.length = 0 by omega), rl_nil]; simp
  unfold worth; omega
theorem bestF_rng {T : Tn} (hw : TWf T) (hRH : 0 < tH T → 0 < tR T) : ∀ (l : List Ar), (∀ L, L ∈ l → WA (tR T) (tH T) L) → (-1 ≤ (bestF T l).1 ∧ (bestF T l).1 ≤ l.length) ∧ (-800 ≤ (bestF T l).2.1 ∧ (bestF T l).2.1 ≤ 800) ∧ (bestF T l).2.2 = l.length := by
  intro l hv
  have key : ∀ n (l : List Ar), l.length = n → (∀ L, L ∈ l → WA (tR T) (tH T) L) → (-1 ≤ (bestF T l).1 ∧ (bestF T l).1 ≤ l.length) ∧ (-800 ≤ (bestF T l).2.1 ∧ (bestF T l).2.1 ≤ 800) ∧ (bestF T l).2.2 = l.length := by
    intro n
    induction n with
    | zero => intro l hl _; rw [List.length_eq_zero_iff.mp hl]; simp [bestF]
    | succ n ih =>
      intro l hl hv
      rcases List.eq_nil_or_concat l with rfl | ⟨l', x, rfl⟩
      · simp at hl
      · rw [List.concat_eq_append] at *
        rw [List.length_append, List.length_singleton] at *
        have h1 := ih l' (by omega) (fun L hL => hv L (List.mem_append_left _ hL))
        have h2 := worth_rng hw (hv x (by simp)) hRH
        rw [bestF_snoc]
        unfold bestS
        split
        · dsimp only; omega
        · dsimp only; omega
  exact key _ l rfl hv
