/-! STATES SETTLED, IN THE REFERENCE -/
def IJ (T : Tn) : Prop := ∀ A B, WA (tR T) (tH T) A → WA (tR T) (tH T) B → stn (tR T) A = stn (tR T) B → A = B
def SRm (T : Tn) (L0 : Ar) (Rs : Nat → Prop) (dw st hp : Nat → Nat) (n : Nat) (Z : List Nat) : Prop :=
  (∀ s, Rs s ↔ s ∈ Z ∨ ∃ j, j < n ∧ hp j = s) ∧ (Z.Nodup ∧ (∀ j, j < n → hp j ∉ Z) ∧ ∀ j k, j < n → k < n → hp j = hp k → j = k) ∧
  (∀ s, Rs s → ∃ L r, WA (tR T) (tH T) L ∧ s = stn (tR T) L ∧ RwR T L0 r L (dw s) ∧ r.length = st s) ∧
  (∀ (p s : Nat), Z[p]? = some s → st s ≤ p) ∧ (∀ j, j < n → st (hp j) ≤ Z.length) ∧ (∀ z j, z ∈ Z → j < n → kk dw st z ≤ kk dw st (hp j)) ∧
  (∀ (p q z y : Nat), p ≤ q → Z[p]? = some z → Z[q]? = some y → kk dw st z ≤ kk dw st y) ∧ Rs (stn (tR T) L0) ∧ kk dw st (stn (tR T) L0) = 0
def RXD (T : Tn) (Rs : Nat → Prop) (dw st : Nat → Nat) (P : Nat → Tr → Prop) : Prop := ∀ L a, WA (tR T) (tH T) L → P (stn (tR T) L) a → a ∈ pulls T L → Rs (stn (tR T) (mvA L a)) ∧ kk dw st (stn (tR T) (mvA L a)) ≤ kk dw st (stn (tR T) L) + wtA T L a * 100000 + 1
theorem SRm.len {T : Tn} {L0 : Ar} {Rs : Nat → Prop} {dw st hp : Nat → Nat} {n : Nat} {Z : List Nat} (h : SRm T L0 Rs dw st hp n Z) (hH : tH T ≤ 8) (hRH : 0 < tH T → 0 < tR T) : Z.length + n ≤ ways (tR T) (tH T) := by
  obtain ⟨h1, ⟨h2, h2b, h2c⟩, h3, -⟩ := h
  have hch : ∀ s, ∃ L, Rs s → WA (tR T) (tH T) L ∧ s = stn (tR T) L := fun s => by
    by_cases c : Rs s
    · obtain ⟨L, r, a, e, -⟩ := h3 s c; exact ⟨L, fun _ => ⟨a, e⟩⟩
    · exact ⟨[], fun h => absurd h c⟩
  obtain ⟨fL, hfL⟩ := Classical.axiomOfChoice hch
  have hall : ∀ s, s ∈ Z ++ (List.range n).map hp → Rs s := fun s hs => by
    rw [List.mem_append, List.mem_map] at hs
    rcases hs with hs | ⟨j, hj, e⟩
    · exact (h1 s).mpr (Or.inl hs)
    · exact (h1 s).mpr (Or.inr ⟨j, List.mem_range.mp hj, e⟩)
  have nd : (Z ++ (List.range n).map hp).Nodup := by
    rw [List.nodup_append]
    refine ⟨h2, ?_, fun a ha b hb e => ?_⟩
    · unfold List.Nodup
      rw [List.pairwise_map]
      refine List.Pairwise.imp_of_mem ?_ (List.nodup_range (n := n))
      intro a b ha hb hne e
      exact hne (h2c a b (List.mem_range.mp ha) (List.mem_range.mp hb) e)
    · rw [List.mem_map] at hb
      obtain ⟨j, hj, e2⟩ := hb
      exact h2b j (List.mem_range.mp hj) (by rw [e2, ← e]; exact ha)
  have nd2 : ((Z ++ (List.range n).map hp).map fL).Nodup := by
    unfold List.Nodup
    rw [List.pairwise_map]
    refine List.Pairwise.imp_of_mem ?_ nd
    intro a b ha hb hne e
    have x := (hfL a (hall a ha)).2
    have y := (hfL b (hall b hb)).2
    exact hne (by rw [x, y, e])
  have := few hH hRH (Q := (Z ++ (List.range n).map hp).map fL) (fun L hL => by
    rw [List.mem_map] at hL
    obtain ⟨s, hs, e⟩ := hL
    rw [← e]; exact (hfL s (hall s hs)).1) nd2
  simpa using this
theorem RwR_w {T : Tn} {L0 : Ar} (hw : TWf T) (h6 : tH T ≤ 6) (w0 : WA (tR T) (tH T) L0) : ∀ {r : List Tr} {L : Ar} {w : Nat}, RwR T L0 r L w → w ≤ 594 * r.length
  | [], L, w, h => by rw [h.2]; omega
  | a :: r, L, w, h => by
    obtain ⟨L', w', h1, h2, h3, h4⟩ := h
    have := RwR_w hw h6 w0 h1
    have := wt_rng hw h6 (RwR_WA w0 h1) h2
    rw [List.length_cons]; omega
theorem kk_new0 {k e w s : Nat} (h : k ≤ e + s) : k ≤ e + w + (s + 1) := by omega
theorem kk_new {k d w s : Nat} (h : k ≤ d * 100000 + s) : k ≤ (d + w) * 100000 + (s + 1) := by
  rw [Nat.add_mul]
  exact kk_new0 h
/-- one better label -/
theorem SRm.step {T : Tn} {L0 : Ar} {Rs : Nat → Prop} {dw st hp hp' : Nat → Nat} {n n' : Nat} {Z : List Nat} (w0 : WA (tR T) (tH T) L0) (h : SRm T L0 Rs dw st hp n Z) {L : Ar} (wL : WA (tR T) (tH T) L) {a : Tr} {s0 s1 : Nat} (hs0 : stn (tR T) L = s0) (hs1 : stn (tR T) (mvA L a) = s1) (hZ : Z[Z.length - 1]? = some s0) (hZ0 : 0 < Z.length) (ha : a ∈ pulls T L) {r : List Tr} (hr : RwR T L0 r L (dw s0)) (hrl : r.length = st s0)
    (hnot : ¬ (Rs s1 ∧ kk dw st s1 ≤ (dw s0 + wtA T L a) * 100000 + (st s0 + 1)))
    (hmem : ∀ x, (∃ j, j < n' ∧ hp' j = x) ↔ x = s1 ∨ ∃ j, j < n ∧ hp j = x) (hinj : ∀ j k, j < n' → k < n' → hp' j = hp' k → j = k) :
    SRm T L0 (fun x => Rs x ∨ x = s1) (uN dw s1 (dw s0 + wtA T L a)) (uN st s1 (st s0 + 1)) hp' n' Z ∧ s1 ∉ Z ∧
    ∀ P, RXD T Rs dw st P → (∀ s b, P s b → s ∈ Z) → RXD T (fun x => Rs x ∨ x = s1) (uN dw s1 (dw s0 + wtA T L a)) (uN st s1 (st s0 + 1)) P := by
  obtain ⟨g1, ⟨g2, g2b, g2c⟩, g3, g4, g5, g6, g7, g8, g9⟩ := h
  have hlast : ∀ z, z ∈ Z → kk dw st z ≤ kk dw st s0 := fun z hz => by
    obtain ⟨p, hp1, e⟩ := List.getElem_of_mem hz
    exact g7 p (Z.length - 1) z _ (by omega) (by rw [List.getElem?_eq_getElem hp1, e]) hZ
  have hsZ : s0 ∈ Z := List.mem_of_getElem? hZ
  have hnZ : s1 ∉ Z := fun hz => hnot ⟨(g1 _).mpr (Or.inl hz), kk_new (hlast _ hz)⟩
  have hkZ : ∀ z, z ∈ Z → kk (uN dw s1 (dw s0 + wtA T L a)) (uN st s1 (st s0 + 1)) z = kk dw st z := fun z hz => by
    have hne : z ≠ s1 := fun e => hnZ (by rw [← e]; exact hz)
    rw [kk_set, if_neg hne]
  have hks := kk_set (dw := dw) (st := st) (s := s1) (by' := dw s0 + wtA T L a) (pl := st s0 + 1) (x := s1)
  rw [if_pos rfl] at hks
  have hle : ∀ x, Rs x → kk (uN dw s1 (dw s0 + wtA T L a)) (uN st s1 (st s0 + 1)) x ≤ kk dw st x := fun x hx => by
    by_cases c : x = s1
    · rw [c, hks]
      by_cases c2 : kk dw st s1 ≤ (dw s0 + wtA T L a) * 100000 + (st s0 + 1)
      · exact absurd ⟨c ▸ hx, c2⟩ hnot
      · omega
    · rw [kk_set, if_neg c]; exact Nat.le_refl _
  have hst : ∀ x, x ≠ s1 → uN st s1 (st s0 + 1) x = st x ∧ uN dw s1 (dw s0 + wtA T L a) x = dw x := fun x hx => ⟨uN_ne _ _ hx, uN_ne _ _ hx⟩
  have hs4 := g4 _ _ hZ
  refine ⟨⟨fun x => ?_, ⟨g2, fun j hj hz => ?_, hinj⟩, fun x hx => ?_, fun p s hp1 => ?_, fun j hj => ?_, fun z j hz hj => ?_, fun p q z y hpq hz hy => ?_, Or.inl g8, ?_⟩, hnZ, fun P hP hPZ L' b wL' hPb hb => ?_⟩
  · rw [hmem]
    show (Rs x ∨ x = s1) ↔ _
    rw [g1 x]
    constructor
    · rintro ((h | h) | h)
      · exact Or.inl h
      · exact Or.inr (Or.inr h)
      · exact Or.inr (Or.inl h)
    · rintro (h | h | h)
      · exact Or.inl (Or.inl h)
      · exact Or.inr h
      · exact Or.inl (Or.inr h)
  · rcases (hmem (hp' j)).mp ⟨j, hj, rfl⟩ with e | ⟨k, hk, e⟩
    · rw [e] at hz; exact hnZ hz
    · rw [← e] at hz; exact g2b k hk hz
  · by_cases c : x = s1
    · rw [c, uN_eq, uN_eq]
      exact ⟨mvA L a, a :: r, pulls_WA wL ha, hs1.symm, ⟨L, _, hr, ha, rfl, rfl⟩, by rw [List.length_cons, hrl]⟩
    · rw [(hst x c).1, (hst x c).2]
      exact g3 x (hx.resolve_right c)
  · rw [(hst s (fun e => hnZ (e ▸ List.mem_of_getElem? hp1))).1]
    exact g4 p s hp1
  · rcases (hmem (hp' j)).mp ⟨j, hj, rfl⟩ with e | ⟨k, hk, e⟩
    · rw [e, uN_eq]; omega
    · by_cases c : hp' j = s1
      · rw [c, uN_eq]; omega
      · rw [(hst _ c).1, ← e]; exact g5 k hk
  · rw [hkZ z hz]
    by_cases c : hp' j = s1
    · rw [c, hks]
      exact kk_new (hlast z hz)
    · rw [kk_set, if_neg c]
      rcases (hmem (hp' j)).mp ⟨j, hj, rfl⟩ with e | ⟨k, hk, e⟩
      · exact absurd e c
      · rw [← e]; exact g6 z k hz hk
  · rw [hkZ z (List.mem_of_getElem? hz), hkZ y (List.mem_of_getElem? hy)]
    exact g7 p q z y hpq hz hy
  · rw [kk_set, if_neg (fun e => ?_)]
    · exact g9
    · rw [← e] at hnot
      exact hnot ⟨g8, by rw [g9]; omega⟩
  · obtain ⟨a1, a2⟩ := hP L' b wL' hPb hb
    have hZ' := hPZ _ _ hPb
    refine ⟨Or.inl a1, ?_⟩
    rw [hkZ _ hZ']
    exact Nat.le_trans (hle _ a1) a2
/-- what settling leaves -/
def ST (M : rhM) (T : Tn) (L0 : Ar) (dw st : Nat → Nat) (Z : List Nat) : Prop :=
  KM M (fun s => s ∈ Z) dw st ∧ M.1 102 71 = J Z.length ∧ Sg (M.1 148) 0 Z ∧ Z.Nodup ∧ Z.length ≤ 60480 ∧ (∀ (p q z y : Nat), p ≤ q → Z[p]? = some z → Z[q]? = some y → kk dw st z ≤ kk dw st y) ∧
  (∀ s, s ∈ Z → ∃ L r, WA (tR T) (tH T) L ∧ s = stn (tR T) L ∧ RwR T L0 r L (dw s) ∧ r.length = st s) ∧ (∀ s, s ∈ Z → st s < 70000 ∧ dw s ≤ 40000000) ∧
  (∀ r L w, RwR T L0 r L w → stn (tR T) L ∈ Z ∧ (dw (stn (tR T) L) < w ∨ (dw (stn (tR T) L) = w ∧ st (stn (tR T) L) ≤ r.length)))
theorem SRm.all {T : Tn} {L0 : Ar} {Rs : Nat → Prop} {dw st hp : Nat → Nat} {Z : List Nat} (h : SRm T L0 Rs dw st hp 0 Z) (hZl : Z.length ≤ 60480) (w0 : WA (tR T) (tH T) L0) (hX : RXD T Rs dw st (fun s _ => s ∈ Z)) : ∀ r L w, RwR T L0 r L w → stn (tR T) L ∈ Z ∧ (dw (stn (tR T) L) < w ∨ (dw (stn (tR T) L) = w ∧ st (stn (tR T) L) ≤ r.length)) := by
  obtain ⟨g1, ⟨g2, g2b, g2c⟩, g3, g4, g5, g6, g7, g8, g9⟩ := h
  have g1' : ∀ s, Rs s → s ∈ Z := fun s hs => ((g1 s).mp hs).resolve_right (fun ⟨j, hj, _⟩ => by omega)
  have hst : ∀ s, s ∈ Z → st s ≤ 60480 := fun s hs => by
    obtain ⟨p, hp1, e⟩ := List.getElem_of_mem hs
    have := g4 p s (by rw [List.getElem?_eq_getElem hp1, e])
    omega
  intro r
  induction r with
  | nil =>
    rintro L w ⟨rfl, rfl⟩
    refine ⟨g1' _ g8, ?_⟩
    unfold kk at g9
    right; constructor <;> omega
  | cons a r ih =>
    rintro L w ⟨L', w', h1, h2, rfl, rfl⟩
    obtain ⟨i1, i2⟩ := ih L' w' h1
    obtain ⟨x1, x2⟩ := hX L' a (RwR_WA w0 h1) i1 h2
    have y1 := hst _ i1
    have y2 := hst _ (g1' _ x1)
    refine ⟨g1' _ x1, ?_⟩
    rw [List.length_cons]
    unfold kk at x2
    omega
