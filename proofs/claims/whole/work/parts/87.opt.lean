/-! ROWS BY WEIGHT, PULLS, ORDER -/
def wtA (T : Tn) (L : Ar) (a : Tr) : Nat := sm (tw T) (sg L a.1 a.2.1)
/-- a row, the last pull first: where it leads, what it weighs -/
def RwR (T : Tn) (L0 : Ar) : List Tr → Ar → Nat → Prop
  | [], L, w => L = L0 ∧ w = 0
  | a :: r, L, w => ∃ L' w', RwR T L0 r L' w' ∧ a ∈ pulls T L' ∧ L = mvA L' a ∧ w = w' + wtA T L' a
def lxl : List Nat → List Nat → Prop
  | a :: r, b :: s => lxl r s ∨ (r = s ∧ a < b)
  | _, _ => False
abbrev Ky : Type := Nat × List Nat
def klt (x y : Ky) : Prop := x.1 < y.1 ∨ (x.1 = y.1 ∧ (x.2.length < y.2.length ∨ (x.2.length = y.2.length ∧ lxl x.2 y.2)))
theorem lxl_irr : ∀ a : List Nat, ¬ lxl a a
  | [] => fun h => h
  | x :: a => by
    rw [lxl]
    rintro (h | h)
    · exact lxl_irr a h
    · omega
theorem lxl_tr : ∀ {a b c : List Nat}, lxl a b → lxl b c → lxl a c
  | x :: a, y :: b, z :: c, h1, h2 => by
    rw [lxl] at *
    rcases h1 with h1 | ⟨rfl, h1⟩
    · rcases h2 with h2 | ⟨rfl, h2⟩
      · exact Or.inl (lxl_tr h1 h2)
      · exact Or.inl h1
    · rcases h2 with h2 | ⟨rfl, h2⟩
      · exact Or.inl h2
      · exact Or.inr ⟨rfl, by omega⟩
theorem lxl_tot : ∀ {a b : List Nat}, a.length = b.length → lxl a b ∨ a = b ∨ lxl b a
  | [], [], _ => Or.inr (Or.inl rfl)
  | x :: a, y :: b, h => by
    rcases lxl_tot (a := a) (b := b) (by simpa using h) with h1 | h1 | h1
    · exact Or.inl (by rw [lxl]; exact Or.inl h1)
    · subst h1
      rcases Nat.lt_trichotomy x y with h2 | h2 | h2
      · exact Or.inl (by rw [lxl]; exact Or.inr ⟨rfl, h2⟩)
      · exact Or.inr (Or.inl (by rw [h2]))
      · exact Or.inr (Or.inr (by rw [lxl]; exact Or.inr ⟨rfl, h2⟩))
    · exact Or.inr (Or.inr (by rw [lxl]; exact Or.inl h1))
theorem klt_irr (x : Ky) : ¬ klt x x := by
  unfold klt
  rintro (h | ⟨-, h | ⟨-, h⟩⟩)
  · omega
  · omega
  · exact lxl_irr _ h
theorem klt_tr {x y z : Ky} (h1 : klt x y) (h2 : klt y z) : klt x z := by
  unfold klt at *
  rcases h1 with h1 | ⟨e1, h1⟩
  · rcases h2 with h2 | ⟨e2, h2⟩ <;> exact Or.inl (by omega)
  · rcases h2 with h2 | ⟨e2, h2⟩
    · exact Or.inl (by omega)
    · refine Or.inr ⟨by omega, ?_⟩
      rcases h1 with h1 | ⟨f1, h1⟩
      · rcases h2 with h2 | ⟨f2, h2⟩ <;> exact Or.inl (by omega)
      · rcases h2 with h2 | ⟨f2, h2⟩
        · exact Or.inl (by omega)
        · exact Or.inr ⟨by omega, lxl_tr h1 h2⟩
theorem klt_tot (x y : Ky) : klt x y ∨ x = y ∨ klt y x := by
  unfold klt
  rcases Nat.lt_trichotomy x.1 y.1 with h | h | h
  · exact Or.inl (Or.inl h)
  · rcases Nat.lt_trichotomy x.2.length y.2.length with h2 | h2 | h2
    · exact Or.inl (Or.inr ⟨h, Or.inl h2⟩)
    · rcases lxl_tot h2 with h3 | h3 | h3
      · exact Or.inl (Or.inr ⟨h, Or.inr ⟨h2, h3⟩⟩)
      · exact Or.inr (Or.inl (Prod.ext h h3))
      · exact Or.inr (Or.inr (Or.inr ⟨h.symm, Or.inr ⟨h2.symm, h3⟩⟩))
    · exact Or.inr (Or.inr (Or.inr ⟨h.symm, Or.inl h2⟩))
  · exact Or.inr (Or.inr (Or.inl h))
/-- not worse -/
def kle (x y : Ky) : Prop := ¬ klt y x
theorem kle_refl (x : Ky) : kle x x := klt_irr x
theorem kle_tr {x y z : Ky} (h1 : kle x y) (h2 : kle y z) : kle x z := by
  intro h
  rcases klt_tot x y with a | a | a
  · rcases klt_tot y z with b | b | b
    · exact klt_irr _ (klt_tr (klt_tr h a) b)
    · subst b; exact klt_irr _ (klt_tr h a)
    · exact h2 b
  · subst a; exact h2 h
  · exact h1 a
theorem kle_w {x y : Ky} (h : kle x y) : x.1 ≤ y.1 := by
  by_cases c : y.1 < x.1
  · exact absurd (Or.inl c) h
  · omega
theorem klt_ext {x y : Ky} (d c : Nat) : klt (x.1 + d, c :: x.2) (y.1 + d, c :: y.2) ↔ klt x y := by
  unfold klt
  simp only [List.length_cons, lxl]
  constructor
  · rintro (h | ⟨e, h | ⟨f, h | h⟩⟩)
    · exact Or.inl (by omega)
    · exact Or.inr ⟨by omega, Or.inl (by omega)⟩
    · exact Or.inr ⟨by omega, Or.inr ⟨by omega, h⟩⟩
    · omega
  · rintro (h | ⟨e, h | ⟨f, h⟩⟩)
    · exact Or.inl (by omega)
    · exact Or.inr ⟨by omega, Or.inl (by omega)⟩
    · exact Or.inr ⟨by omega, Or.inr ⟨by omega, Or.inl h⟩⟩
theorem kle_ext {x y : Ky} (d c : Nat) (h : kle x y) : kle (x.1 + d, c :: x.2) (y.1 + d, c :: y.2) := fun h2 => h ((klt_ext d c).mp h2)
def kof (r : List Tr) (w : Nat) : Ky := (w, r.map cdT)
theorem RwR_WA {T : Tn} {L0 : Ar} (w0 : WA (tR T) (tH T) L0) : ∀ {r : List Tr} {L : Ar} {w : Nat}, RwR T L0 r L w → WA (tR T) (tH T) L
  | [], L, w, h => by rw [h.1]; exact w0
  | a :: r, L, w, h => by
    obtain ⟨L', w', h1, h2, h3, -⟩ := h
    rw [h3]; exact pulls_WA (RwR_WA w0 h1) h2
theorem wt_rng {T : Tn} (hw : TWf T) (h6 : tH T ≤ 6) {L : Ar} (wL : WA (tR T) (tH T) L) {a : Tr} (ha : a ∈ pulls T L) : 1 ≤ wtA T L a ∧ wtA T L a ≤ 594 := by
  obtain ⟨c1, c2, c3, c4, c5⟩ := (pulls_ok ha).1
  have h5 := hw.2.2.2.2.2.1
  have hl := sg_len c5
  have hm : ∀ x, x ∈ sg L a.1 a.2.1 → 1 ≤ tw T x ∧ tw T x ≤ 99 := fun x hx => by
    have := h5 x (wL.lt.mp (rl_sub (List.mem_of_mem_drop hx)))
    exact ⟨this.2.2.1, this.2.2.2.1⟩
  have hlen := wL.rl_len c1
  constructor
  · cases hs : sg L a.1 a.2.1 with
    | nil => rw [hs] at hl; simp at hl; omega
    | cons x l =>
      have := (hm x (by rw [hs]; exact List.mem_cons_self)).1
      unfold wtA; rw [hs, sm_cons]; omega
  · have := sm_le (g := tw T) (c := 99) (l := sg L a.1 a.2.1) (fun x hx => (hm x hx).2)
    unfold wtA; omega
/-- the best of all rows to such as are sought -/
def Least (T : Tn) (L0 : Ar) (p : Ar → Prop) (k : Ky) : Prop := (∃ r L w, RwR T L0 r L w ∧ p L ∧ k = kof r w) ∧ ∀ r L w, RwR T L0 r L w → p L → kle k (kof r w)
theorem Least_one {T : Tn} {L0 : Ar} {p : Ar → Prop} {k k' : Ky} (h : Least T L0 p k) (h' : Least T L0 p k') : k = k' := by
  obtain ⟨r, L, w, h1, h2, h3⟩ := h.1
  obtain ⟨r', L', w', h1', h2', h3'⟩ := h'.1
  have a := h.2 r' L' w' h1' h2'
  have b := h'.2 r L w h1 h2
  rw [← h3'] at a
  rw [← h3] at b
  rcases klt_tot k k' with c | c | c
  · exact absurd c b
  · exact c
  · exact absurd c a
/-! states with a label each, some of them done: the heart of going on from the lightest -/
abbrev Lb : Type := Ar × Ky
def DJ (T : Tn) (L0 : Ar) (N : List Lb) (dn : Nat → Prop) (W : Nat) : Prop :=
  (∃ x, N[0]? = some x ∧ x = (L0, 0, [])) ∧ (∀ (j : Nat) (x : Lb), N[j]? = some x → ∃ r, RwR T L0 r x.1 x.2.1 ∧ x.2.2 = r.map cdT) ∧
  (∀ (j : Nat) (x : Lb), N[j]? = some x → dn j → x.2.1 ≤ W ∧ ∀ a, a ∈ pulls T x.1 → ∃ (i : Nat) (y : Lb), N[i]? = some y ∧ y.1 = mvA x.1 a ∧ kle y.2 (x.2.1 + wtA T x.1 a, cdT a :: x.2.2)) ∧
  (∀ (j : Nat) (x : Lb), N[j]? = some x → ¬ dn j → W ≤ x.2.1) ∧ (N.map fun x => x.1).Nodup
theorem nd_one {N : List Lb} (nd : (N.map fun x => x.1).Nodup) {i j : Nat} {x y : Lb} (hx : N[i]? = some x) (hy : N[j]? = some y) (e : x.1 = y.1) : i = j ∧ x = y := by
  have h1 : (N.map fun x => x.1)[i]? = some x.1 := by rw [List.getElem?_map, hx]; rfl
  have h2 : (N.map fun x => x.1)[j]? = some x.1 := by rw [List.getElem?_map, hy, e]; rfl
  have := (List.getElem?_inj (List.getElem?_eq_some_iff.mp h1).1 nd).mp (h1.trans h2.symm)
  subst this
  rw [hx] at hy; cases hy; exact ⟨rfl, rfl⟩
theorem DJ_low {T : Tn} {L0 : Ar} {N : List Lb} {dn : Nat → Prop} {W : Nat} (hw : TWf T) (h6 : tH T ≤ 6) (w0 : WA (tR T) (tH T) L0) (h : DJ T L0 N dn W) : ∀ {r : List Tr} {L : Ar} {w : Nat}, RwR T L0 r L w → (w < W → ∃ (j : Nat) (x : Lb), N[j]? = some x ∧ x.1 = L ∧ dn j ∧ kle x.2 (kof r w)) ∧ (w = W → ∃ (j : Nat) (x : Lb), N[j]? = some x ∧ x.1 = L ∧ kle x.2 (kof r w)) := by
  obtain ⟨⟨x0, hx0, e0⟩, h2, h3, h4, h5⟩ := h
  intro r
  induction r with
  | nil =>
    intro L w hr
    obtain ⟨rfl, rfl⟩ := hr
    subst e0
    refine ⟨fun hW => ⟨0, _, hx0, rfl, ?_, kle_refl _⟩, fun hW => ⟨0, _, hx0, rfl, kle_refl _⟩⟩
    by_cases c : dn 0
    · exact c
    · have := h4 0 _ hx0 c; dsimp only at this; omega
  | cons a r ih =>
    intro L w hr
    obtain ⟨L', w', g1, g2, rfl, rfl⟩ := hr
    have hwt := wt_rng hw h6 (RwR_WA w0 g1) g2
    have key : w' < W → ∃ (j : Nat) (x : Lb), N[j]? = some x ∧ x.1 = mvA L' a ∧ kle x.2 (kof (a :: r) (w' + wtA T L' a)) := by
      intro hW
      obtain ⟨j, x, y1, y2, y3, y4⟩ := (ih g1).1 hW
      obtain ⟨-, y5⟩ := h3 j x y1 y3
      obtain ⟨i, y, z1, z2, z3⟩ := y5 a (by rw [y2]; exact g2)
      rw [y2] at z2 z3
      exact ⟨i, y, z1, z2, kle_tr z3 (kle_ext (wtA T L' a) (cdT a) y4)⟩
    refine ⟨fun hW => ?_, fun hW => key (by omega)⟩
    obtain ⟨j, x, y1, y2, y3⟩ := key (by omega)
    refine ⟨j, x, y1, y2, ?_, y3⟩
    by_cases c : dn j
    · exact c
    · have z1 := h4 j x y1 c
      have z2 := kle_w y3
      have : (kof (a :: r) (w' + wtA T L' a)).1 = w' + wtA T L' a := rfl
      omega
/-- a label of the weight that is on is the best of its state -/
theorem DJ_best {T : Tn} {L0 : Ar} {N : List Lb} {dn : Nat → Prop} {W : Nat} (hw : TWf T) (h6 : tH T ≤ 6) (w0 : WA (tR T) (tH T) L0) (h : DJ T L0 N dn W) {j : Nat} {x : Lb} (hx : N[j]? = some x) (hj : ¬ dn j) (hW : x.2.1 = W) {r : List Tr} {w : Nat} (hr : RwR T L0 r x.1 w) : kle x.2 (kof r w) := by
  have nd := h.2.2.2.2
  obtain ⟨a, b⟩ := DJ_low hw h6 w0 h hr
  rcases Nat.lt_trichotomy w W with c | c | c
  · obtain ⟨i, y, y1, y2, y3, -⟩ := a c
    obtain ⟨rfl, rfl⟩ := nd_one nd hx y1 y2.symm
    exact absurd y3 hj
  · obtain ⟨i, y, y1, y2, y3⟩ := b c
    obtain ⟨rfl, rfl⟩ := nd_one nd hx y1 y2.symm
    exact y3
  · intro h2
    unfold klt kof at h2
    dsimp only at h2
    omega
/-- the best of the sought ones of that weight is the best of all, if no done one is sought -/
theorem DJ_least {T : Tn} {L0 : Ar} {N : List Lb} {dn : Nat → Prop} {W : Nat} {p : Ar → Prop} (hw : TWf T) (h6 : tH T ≤ 6) (w0 : WA (tR T) (tH T) L0) (h : DJ T L0 N dn W) (hno : ∀ (j : Nat) (x : Lb), N[j]? = some x → dn j → ¬ p x.1) {j : Nat} {x : Lb} (hx : N[j]? = some x) (hW : x.2.1 = W) (hp : p x.1)
    (hmin : ∀ (i : Nat) (y : Lb), N[i]? = some y → y.2.1 = W → p y.1 → kle x.2 y.2) : Least T L0 p x.2 := by
  obtain ⟨r, hr, hc⟩ := h.2.1 j x hx
  refine ⟨⟨r, x.1, x.2.1, hr, hp, ?_⟩, fun r' L' w' hr' hp' => ?_⟩
  · unfold kof; rw [← hc]
  · obtain ⟨a, b⟩ := DJ_low hw h6 w0 h hr'
    rcases Nat.lt_trichotomy w' W with c | c | c
    · obtain ⟨i, y, y1, y2, y3, -⟩ := a c
      exact absurd (y2 ▸ hp') (hno i y y1 y3)
    · obtain ⟨i, y, y1, y2, y3⟩ := b c
      have hpy : p y.1 := y2 ▸ hp'
      have hyd : ¬ dn i := fun hd => hno i y y1 hd hpy
      have hyw : y.2.1 = W := by
        have z1 := h.2.2.2.1 i y y1 hyd
        have z2 := kle_w y3
        have : (kof r' w').1 = w' := rfl
        omega
      exact kle_tr (hmin i y y1 hyw hpy) y3
    · intro h2
      unfold klt kof at h2
      dsimp only at h2
      omega
/-- nothing waits any more and no done one is sought: none can be come to -/
theorem DJ_none {T : Tn} {L0 : Ar} {N : List Lb} {dn : Nat → Prop} {W : Nat} {p : Ar → Prop} (h : DJ T L0 N dn W) (hall : ∀ (j : Nat) (x : Lb), N[j]? = some x → dn j) (hno : ∀ (j : Nat) (x : Lb), N[j]? = some x → ¬ p x.1) : ∀ {r : List Tr} {L : Ar} {w : Nat}, RwR T L0 r L w → ∃ (j : Nat) (x : Lb), N[j]? = some x ∧ x.1 = L := by
  obtain ⟨⟨x0, hx0, e0⟩, h2, h3, h4, h5⟩ := h
  intro r
  induction r with
  | nil =>
    intro L w hr
    obtain ⟨rfl, rfl⟩ := hr
    subst e0
    exact ⟨0, _, hx0, rfl⟩
  | cons a r ih =>
    intro L w hr
    obtain ⟨L', w', g1, g2, rfl, rfl⟩ := hr
    obtain ⟨j, x, y1, y2⟩ := ih g1
    obtain ⟨-, y5⟩ := h3 j x y1 (hall j x y1)
    obtain ⟨i, y, z1, z2, -⟩ := y5 a (by rw [y2]; exact g2)
    exact ⟨i, y, z1, by rw [z2, y2]⟩
