/-! THE BEST ROW BY GOING FORWARD -/
theorem RwR_app {T : Tn} {L0 : Ar} : ∀ {r2 r1 : List Tr} {L : Ar} {w : Nat}, RwR T L0 (r2 ++ r1) L w ↔ ∃ L1 w1 w2, RwR T L0 r1 L1 w1 ∧ RwR T L1 r2 L w2 ∧ w = w1 + w2
  | [], r1, L, w => by
    constructor
    · intro h; exact ⟨L, w, 0, h, ⟨rfl, rfl⟩, rfl⟩
    · rintro ⟨L1, w1, w2, h1, ⟨rfl, rfl⟩, rfl⟩; exact h1
  | a :: r2, r1, L, w => by
    constructor
    · rintro ⟨L', w', h1, h2, rfl, rfl⟩
      obtain ⟨L1, w1, w2, g1, g2, rfl⟩ := RwR_app.mp h1
      exact ⟨L1, w1, w2 + wtA T L' a, g1, ⟨L', w2, g2, h2, rfl, rfl⟩, by omega⟩
    · rintro ⟨L1, w1, w2, h1, ⟨L', w', g1, g2, rfl, rfl⟩, rfl⟩
      exact ⟨L', w1 + w', RwR_app.mpr ⟨L1, w1, w', h1, g1, rfl⟩, g2, rfl, by omega⟩
theorem RwR_one {T : Tn} {L0 : Ar} {a : Tr} {L : Ar} {w : Nat} : RwR T L0 [a] L w ↔ a ∈ pulls T L0 ∧ L = mvA L0 a ∧ w = wtA T L0 a := by
  constructor
  · rintro ⟨L', w', ⟨rfl, rfl⟩, h2, h3, h4⟩; exact ⟨h2, h3, by omega⟩
  · rintro ⟨h1, h2, h3⟩; exact ⟨L0, 0, ⟨rfl, rfl⟩, h1, h2, by omega⟩
/-- a state's label is the least of all rows to it -/
def LBL (T : Tn) (L0 : Ar) (dw st : Nat → Nat) (Z : List Nat) : Prop := (∀ s, s ∈ Z → ∃ L r, WA (tR T) (tH T) L ∧ s = stn (tR T) L ∧ RwR T L0 r L (dw s) ∧ r.length = st s) ∧
  (∀ r L w, RwR T L0 r L w → stn (tR T) L ∈ Z ∧ (dw (stn (tR T) L) < w ∨ (dw (stn (tR T) L) = w ∧ st (stn (tR T) L) ≤ r.length)))
/-- the weight and the number of the best -/
def BW (T : Tn) (L0 : Ar) (p : Ar → Prop) (w n : Nat) : Prop := ∀ r L w', RwR T L0 r L w' → p L → w < w' ∨ (w = w' ∧ n ≤ r.length)
def GB (T : Tn) (p : Ar → Prop) (dw st : Nat → Nat) (w n : Nat) (s : Nat) : Prop := ∃ L r2 Le w2, WA (tR T) (tH T) L ∧ stn (tR T) L = s ∧ RwR T L r2 Le w2 ∧ p Le ∧ dw s + w2 = w ∧ st s + r2.length = n
theorem LBL.row {T : Tn} {L0 : Ar} {dw st : Nat → Nat} {Z : List Nat} (h : LBL T L0 dw st Z) (hIJ : IJ T) {L : Ar} (wL : WA (tR T) (tH T) L) (hL : stn (tR T) L ∈ Z) : ∃ r, RwR T L0 r L (dw (stn (tR T) L)) ∧ r.length = st (stn (tR T) L) := by
  obtain ⟨L1, r, w1, e, hr, hl⟩ := h.1 _ hL
  have := hIJ L L1 wL w1 e
  subst this
  exact ⟨r, hr, hl⟩
/-- a pull on a best row from a state whose label is best is tight -/
theorem tight_of {T : Tn} {L0 : Ar} {p : Ar → Prop} {dw st : Nat → Nat} {Z : List Nat} {w n : Nat} (h : LBL T L0 dw st Z) (hIJ : IJ T) (hB : BW T L0 p w n) {L : Ar} (wL : WA (tR T) (tH T) L) (hL : stn (tR T) L ∈ Z) {a : Tr} (ha : a ∈ pulls T L) {r2 : List Tr} {Le : Ar} {w2 : Nat} (hr : RwR T (mvA L a) r2 Le w2) (hp : p Le) (e1 : dw (stn (tR T) L) + wtA T L a + w2 = w) (e2 : st (stn (tR T) L) + 1 + r2.length = n) : tgt T dw st (GB T p dw st w n) L a := by
  obtain ⟨r, hr0, hl⟩ := h.row hIJ wL hL
  have wm := pulls_WA wL ha
  obtain ⟨hz, hle⟩ := h.2 (a :: r) (mvA L a) _ ⟨L, _, hr0, ha, rfl, rfl⟩
  rw [List.length_cons, hl] at hle
  obtain ⟨r', hr', hl'⟩ := h.row hIJ wm hz
  have hb := hB (r2 ++ r') Le _ (RwR_app.mpr ⟨_, _, _, hr', hr, rfl⟩) hp
  rw [List.length_append, hl'] at hb
  unfold tgt
  refine ⟨⟨mvA L a, r2, Le, w2, wm, rfl, hr, hp, ?_, ?_⟩, ?_, ?_⟩ <;> omega
/-- what is marked: an end of the best weight and number, or one with a tight pull to a marked -/
theorem GB_iff {T : Tn} {L0 : Ar} {p : Ar → Prop} {dw st : Nat → Nat} {Z : List Nat} {w n : Nat} (h : LBL T L0 dw st Z) (hIJ : IJ T) (hB : BW T L0 p w n) {L : Ar} (wL : WA (tR T) (tH T) L) (hL : stn (tR T) L ∈ Z) :
    GB T p dw st w n (stn (tR T) L) ↔ (dw (stn (tR T) L) = w ∧ st (stn (tR T) L) = n ∧ p L) ∨ ∃ a, a ∈ pulls T L ∧ tgt T dw st (GB T p dw st w n) L a := by
  constructor
  · rintro ⟨L1, r2, Le, w2, w1, e, hr, hp, e1, e2⟩
    have := hIJ L1 L w1 wL e
    subst this
    rcases List.eq_nil_or_concat r2 with rfl | ⟨r3, a, rfl⟩
    · obtain ⟨rfl, rfl⟩ := hr
      exact Or.inl ⟨by omega, by simpa using e2, hp⟩
    · rw [List.concat_eq_append] at hr e2
      obtain ⟨L', w', w3, g1, g2, rfl⟩ := RwR_app.mp hr
      obtain ⟨g3, rfl, rfl⟩ := RwR_one.mp g1
      rw [List.length_append, List.length_singleton] at e2
      exact Or.inr ⟨a, g3, tight_of h hIJ hB wL hL g3 g2 hp (by omega) (by omega)⟩
  · rintro (⟨e1, e2, hp⟩ | ⟨a, ha, ⟨L1, r2, Le, w2, w1, e, hr, hp, e1, e2⟩, t1, t2⟩)
    · exact ⟨L, [], L, 0, wL, rfl, ⟨rfl, rfl⟩, hp, by omega, by simpa using e2⟩
    · have := hIJ L1 (mvA L a) w1 (pulls_WA wL ha) e
      subst this
      refine ⟨L, r2 ++ [a], Le, wtA T L a + w2, wL, rfl, RwR_app.mpr ⟨_, _, _, RwR_one.mpr ⟨ha, rfl, rfl⟩, hr, rfl⟩, hp, by omega, ?_⟩
      rw [List.length_append, List.length_singleton]; omega
theorem GB_le {T : Tn} {p : Ar → Prop} {dw st : Nat → Nat} {w n s : Nat} (h : GB T p dw st w n s) : dw s ≤ w ∧ st s ≤ n := by
  obtain ⟨L, r2, Le, w2, -, -, -, -, e1, e2⟩ := h
  constructor <;> omega
/-- codes rise along the list of pulls -/
theorem pulT_sort {T : Tn} {L : Ar} {f m : Nat} : ∀ (d k : Nat), (pulT T L f m k d).Pairwise (fun a b => cdT a < cdT b) ∧ ∀ a, a ∈ pulT T L f m k d → a.1 = f ∧ a.2.1 = m ∧ k ≤ a.2.2 ∧ a.2.2 < k + d
  | 0, k => by simp [pulT]
  | d + 1, k => by
    obtain ⟨h1, h2⟩ := pulT_sort (T := T) (L := L) (f := f) (m := m) d (k + 1)
    rw [pulT_s]
    by_cases c : okb T L f m k = true
    · rw [if_pos c, List.singleton_append]
      refine ⟨List.pairwise_cons.mpr ⟨fun b hb => ?_, h1⟩, fun a ha => ?_⟩
      · obtain ⟨x1, x2, x3, x4⟩ := h2 b hb
        unfold cdT; rw [x1, x2]; dsimp only; omega
      · rcases List.mem_cons.mp ha with e | e
        · rw [e]; exact ⟨rfl, rfl, Nat.le_refl _, by dsimp only; omega⟩
        · obtain ⟨x1, x2, x3, x4⟩ := h2 a e
          exact ⟨x1, x2, by omega, by omega⟩
    · rw [if_neg c, List.nil_append]
      exact ⟨h1, fun a ha => by obtain ⟨x1, x2, x3, x4⟩ := h2 a ha; exact ⟨x1, x2, by omega, by omega⟩⟩
theorem pulM_sort {T : Tn} {L : Ar} {f : Nat} (hR : tR T ≤ 10) : ∀ (d m : Nat), (pulM T L f m d).Pairwise (fun a b => cdT a < cdT b) ∧ ∀ a, a ∈ pulM T L f m d → a.1 = f ∧ m ≤ a.2.1 ∧ a.2.1 < m + d ∧ a.2.2 < 10
  | 0, m => by simp [pulM]
  | d + 1, m => by
    obtain ⟨h1, h2⟩ := pulM_sort (T := T) (L := L) (f := f) hR d (m + 1)
    obtain ⟨g1, g2⟩ := pulT_sort (T := T) (L := L) (f := f) (m := m) (tR T) 0
    rw [pulM_s]
    refine ⟨List.pairwise_append.mpr ⟨g1, h1, fun a ha b hb => ?_⟩, fun a ha => ?_⟩
    · obtain ⟨x1, x2, x3, x4⟩ := h2 b hb
      obtain ⟨y1, y2, y3, y4⟩ := g2 a ha
      unfold cdT; omega
    · rcases List.mem_append.mp ha with e | e
      · obtain ⟨y1, y2, y3, y4⟩ := g2 a e
        exact ⟨y1, by omega, by omega, by omega⟩
      · obtain ⟨x1, x2, x3, x4⟩ := h2 a e
        exact ⟨x1, by omega, by omega, x4⟩
theorem pulF_sort {T : Tn} {L : Ar} (hR : tR T ≤ 10) (hl : ∀ f, (rl L f).length ≤ 8) : ∀ (d f : Nat), (pulF T L f d).Pairwise (fun a b => cdT a < cdT b) ∧ ∀ a, a ∈ pulF T L f d → f ≤ a.1 ∧ a.1 < f + d ∧ a.2.1 < 10 ∧ a.2.2 < 10
  | 0, f => by simp [pulF]
  | d + 1, f => by
    obtain ⟨h1, h2⟩ := pulF_sort hR hl d (f + 1)
    obtain ⟨g1, g2⟩ := pulM_sort (T := T) (L := L) (f := f) hR (rl L f).length 1
    have hlf := hl f
    rw [pulF_s]
    refine ⟨List.pairwise_append.mpr ⟨g1, h1, fun a ha b hb => ?_⟩, fun a ha => ?_⟩
    · obtain ⟨x1, x2, x3, x4⟩ := h2 b hb
      obtain ⟨y1, y2, y3, y4⟩ := g2 a ha
      unfold cdT; omega
    · rcases List.mem_append.mp ha with e | e
      · obtain ⟨y1, y2, y3, y4⟩ := g2 a e
        exact ⟨by omega, by omega, by omega, y4⟩
      · obtain ⟨x1, x2, x3, x4⟩ := h2 a e
        exact ⟨by omega, by omega, x3, x4⟩
theorem pulls_first {T : Tn} {L : Ar} (hw : TWf T) (wL : WA (tR T) (tH T) L) {pre post : List Tr} {a b : Tr} (h : pulls T L = pre ++ a :: post) (hb : b ∈ pulls T L) (hn : b ∉ pre) : cdT a ≤ cdT b := by
  have hs := (pulF_sort (T := T) (L := L) (by have := hw.1; omega) (fun f => by
    by_cases c : f < tR T
    · have := wL.rl_len c; have := hw.2.1; omega
    · unfold rl; rw [gd_big _ (by rw [wL.1]; omega)]; exact Nat.zero_le _) (tR T) 0).1
  change (pulls T L).Pairwise _ at hs
  rw [h] at hs hb
  rcases List.mem_append.mp hb with e | e
  · exact absurd e hn
  · rcases List.mem_cons.mp e with e | e
    · rw [e]; exact Nat.le_refl _
    · exact Nat.le_of_lt ((List.pairwise_cons.mp (List.pairwise_append.mp hs).2.1).1 b e)
/-- no best row is ahead of the row so far -/
def AHD (T : Tn) (L0 : Ar) (p : Ar → Prop) (w n : Nat) (g : List Tr) : Prop := ∀ r2 r1 Le, RwR T L0 (r2 ++ r1) Le w → p Le → (r2 ++ r1).length = n → r1.length = g.length → ¬ lxl (r1.map cdT) (g.map cdT)
theorem AHD_nil (T : Tn) (L0 : Ar) (p : Ar → Prop) (w n : Nat) : AHD T L0 p w n [] := fun r2 r1 Le _ _ _ h => by
  have : r1 = [] := List.eq_nil_of_length_eq_zero (by simpa using h)
  subst this
  intro h; exact h
theorem AHD_step {T : Tn} {L0 : Ar} {p : Ar → Prop} {dw st : Nat → Nat} {Z : List Nat} {w n : Nat} (hw : TWf T) (w0 : WA (tR T) (tH T) L0) (h : LBL T L0 dw st Z) (hIJ : IJ T) (hB : BW T L0 p w n) {g : List Tr} {L : Ar} (hg : RwR T L0 g L (dw (stn (tR T) L))) (hgl : g.length = st (stn (tR T) L)) (hA : AHD T L0 p w n g) {pre post : List Tr} {a : Tr} (hp : pulls T L = pre ++ a :: post) (hpre : ∀ x, x ∈ pre → ¬ tgt T dw st (GB T p dw st w n) L x) : AHD T L0 p w n (a :: g) := by
  intro r2 r1 Le hr hpe hl hl1
  cases r1 with
  | nil => simp at hl1
  | cons b r1 =>
    have wL := RwR_WA w0 hg
    have e : r2 ++ b :: r1 = (r2 ++ [b]) ++ r1 := by simp
    rw [e] at hr hl
    rw [List.length_cons, List.length_cons] at hl1
    rw [List.map_cons, List.map_cons, lxl]
    rintro (h1 | ⟨h1, h2⟩)
    · exact hA (r2 ++ [b]) r1 Le hr hpe hl (by omega) h1
    · obtain ⟨L1, w1, w2, g1, g2, e3⟩ := RwR_app.mp hr
      obtain ⟨rfl, rfl, rfl⟩ := RwR_codes hw w0 g1 hg h1
      obtain ⟨L2, w3, w4, g3, g4, rfl⟩ := RwR_app.mp g2
      obtain ⟨g5, rfl, rfl⟩ := RwR_one.mp g3
      have hz := (h.2 _ _ _ hg).1
      rw [List.length_append, List.length_append, List.length_singleton] at hl
      have ht := tight_of h hIJ hB wL hz g5 g4 hpe (by omega) (by omega)
      have := pulls_first hw wL hp g5 (fun hx => hpre b hx ht)
      omega
theorem AHD_end {T : Tn} {L0 : Ar} {p : Ar → Prop} {w n : Nat} (hB : BW T L0 p w n) {g : List Tr} {L : Ar} (hg : RwR T L0 g L w) (hgl : g.length = n) (hA : AHD T L0 p w n g) (hp : p L) : Least T L0 p (kof g w) := by
  refine ⟨⟨g, L, w, hg, hp, rfl⟩, fun r' L' w' hr' hp' hk => ?_⟩
  have hb := hB r' L' w' hr' hp'
  rcases hk with hk | ⟨e1, hk | ⟨e2, e3⟩⟩
  · unfold kof at hk; dsimp only at hk; omega
  · unfold kof at hk e1; dsimp only at hk e1; rw [List.length_map, List.length_map] at hk; omega
  · unfold kof at e1 e2 e3
    dsimp only at e1 e2 e3
    rw [List.length_map, List.length_map] at e2
    subst e1
    exact hA [] r' L' hr' hp' (by rw [List.nil_append]; omega) e2 e3
