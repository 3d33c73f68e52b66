/-! LABELS, AND A PULL GONE ON BY -/
def candK (T : Tn) (pq : Wn) (a : Tr) : Ky := (pq.2.1.1 + wtA T pq.1 a, cdT a :: pq.2.1.2)
def NI (T : Tn) (L0 : Ar) (N : List Wn) (dn : Nat → Prop) : Prop := N[0]? = some (L0, (0, []), -1, 0) ∧ (∀ (j : Nat) (q : Wn), N[j]? = some q → WA (tR T) (tH T) q.1) ∧ (N.map fun q => q.1).Nodup ∧
  ∀ (j : Nat) (q : Wn), N[j]? = some q → 0 < j → ∃ (i : Nat) (pq : Wn) (a : Tr), N[i]? = some pq ∧ dn i ∧ q.2.2.1 = (i : Int) ∧ a ∈ pulls T pq.1 ∧ q.1 = mvA pq.1 a ∧ q.2.2.2 = cdT a ∧ q.2.1 = candK T pq a
def lbs (N : List Wn) : List Lb := N.map fun q => (q.1, q.2.1)
theorem lbs_at {N : List Wn} {j : Nat} {x : Lb} : (lbs N)[j]? = some x ↔ ∃ q, N[j]? = some q ∧ x = (q.1, q.2.1) := by
  unfold lbs
  rw [List.getElem?_map]
  cases N[j]? with
  | none => simp
  | some q => simp [eq_comm]
theorem NI.row {T : Tn} {L0 : Ar} {N : List Wn} {dn : Nat → Prop} (h : NI T L0 N dn) : ∀ (d j : Nat) (q : Wn), N[j]? = some q → q.2.1.2.length = d → ∃ r, RwR T L0 r q.1 q.2.1.1 ∧ q.2.1.2 = r.map cdT := by
  intro d
  induction d with
  | zero =>
    intro j q hq hd
    by_cases h0 : 0 < j
    · obtain ⟨i, pq, a, -, -, -, -, -, -, h7⟩ := h.2.2.2 j q hq h0
      rw [h7] at hd; simp [candK] at hd
    · rw [show j = 0 by omega, h.1] at hq
      cases hq
      exact ⟨[], ⟨rfl, rfl⟩, rfl⟩
  | succ d ih =>
    intro j q hq hd
    by_cases h0 : 0 < j
    · obtain ⟨i, pq, a, h1, -, -, h4, h5, -, h7⟩ := h.2.2.2 j q hq h0
      rw [h7] at hd
      simp only [candK, List.length_cons] at hd
      obtain ⟨r, r1, r2⟩ := ih i pq h1 (by omega)
      refine ⟨a :: r, ⟨pq.1, pq.2.1.1, r1, h4, h5, by rw [h7]; rfl⟩, by rw [h7]; simp [candK, r2]⟩
    · rw [show j = 0 by omega, h.1] at hq
      cases hq
      simp at hd
theorem NI.pwt {T : Tn} {L0 : Ar} {N : List Wn} {dn : Nat → Prop} (h : NI T L0 N dn) : PWt N := by
  intro j q hq
  by_cases h0 : 0 < j
  · obtain ⟨i, pq, a, h1, -, h3, -, -, h6, h7⟩ := h.2.2.2 j q hq h0
    exact Or.inr ⟨i, pq, h1, h3, by rw [h7, h6]; rfl⟩
  · rw [show j = 0 by omega, h.1] at hq
    cases hq; exact Or.inl rfl
theorem NI.len {T : Tn} {L0 : Ar} {N : List Wn} {dn : Nat → Prop} (h : NI T L0 N dn) {j : Nat} {q : Wn} (hq : N[j]? = some q) : q.2.1.2.length < N.length := by
  have key : ∀ (d j : Nat) (q : Wn), N[j]? = some q → q.2.1.2.length = d → ∀ i, i ≤ d → ∃ (k : Nat) (p : Wn), N[k]? = some p ∧ p.2.1.2.length = i := by
    intro d
    induction d with
    | zero => intro j q hq hd i hi; exact ⟨j, q, hq, by omega⟩
    | succ d ih =>
      intro j q hq hd i hi
      by_cases e : i = d + 1
      · exact ⟨j, q, hq, by omega⟩
      · rcases h.pwt j q hq with h1 | ⟨i', pq, h1, -, h3⟩
        · rw [h1] at hd; simp at hd
        · rw [h3, List.length_cons] at hd
          exact ih i' pq h1 (by omega) i (by omega)
  have key2 : ∀ i : Nat, ∃ k : Nat, i ≤ q.2.1.2.length → ∃ p : Wn, N[k]? = some p ∧ p.2.1.2.length = i := fun i => by
    by_cases c : i ≤ q.2.1.2.length
    · obtain ⟨k, p, h1, h2⟩ := key _ j q hq rfl i c
      exact ⟨k, fun _ => ⟨p, h1, h2⟩⟩
    · exact ⟨0, fun h => absurd h c⟩
  have := fb_holes N.length (q.2.1.2.length + 1) (fun i => Classical.choose (key2 i)) (fun i hi => by
    obtain ⟨p, h1, -⟩ := Classical.choose_spec (key2 i) (by omega)
    exact (List.getElem?_eq_some_iff.mp h1).1) (fun i k hik hk e => by
    obtain ⟨p, h1, h2⟩ := Classical.choose_spec (key2 i) (by omega)
    obtain ⟨p', h1', h2'⟩ := Classical.choose_spec (key2 k) (by omega)
    rw [show Classical.choose (key2 i) = Classical.choose (key2 k) from e, h1'] at h1
    cases h1; omega)
  omega
theorem NI.wlen {T : Tn} {L0 : Ar} {N : List Wn} {dn : Nat → Prop} (hw : TWf T) (h6 : tH T ≤ 6) (h : NI T L0 N dn) : ∀ (d j : Nat) (q : Wn), N[j]? = some q → q.2.1.2.length = d → q.2.1.1 ≤ 594 * d := by
  intro d
  induction d with
  | zero =>
    intro j q hq hd
    by_cases h0 : 0 < j
    · obtain ⟨i, pq, a, -, -, -, -, -, -, h7⟩ := h.2.2.2 j q hq h0
      rw [h7] at hd; simp [candK] at hd
    · rw [show j = 0 by omega, h.1] at hq
      cases hq; exact Nat.zero_le _
  | succ d ih =>
    intro j q hq hd
    by_cases h0 : 0 < j
    · obtain ⟨i, pq, a, h1, -, -, h4, -, -, h7⟩ := h.2.2.2 j q hq h0
      rw [h7] at hd ⊢
      simp only [candK, List.length_cons] at hd ⊢
      have := ih i pq h1 (by omega)
      have := (wt_rng hw h6 (h.2.1 i pq h1) h4).2
      omega
    · rw [show j = 0 by omega, h.1] at hq
      cases hq; simp at hd
/-- what one pull does to the labels -/
def RX (T : Tn) (at_ : Nat) (pq : Wn) (a : Tr) (N N' : List Wn) : Prop :=
  (mvA pq.1 a ∉ (N.map fun q => q.1) ∧ N' = N ++ [(mvA pq.1 a, candK T pq a, (at_ : Int), cdT a)]) ∨
  (∃ (i : Nat) (y : Wn), N[i]? = some y ∧ y.1 = mvA pq.1 a ∧ klt (candK T pq a) y.2.1 ∧ N' = N.set i (mvA pq.1 a, candK T pq a, (at_ : Int), cdT a)) ∨
  (∃ (i : Nat) (y : Wn), N[i]? = some y ∧ y.1 = mvA pq.1 a ∧ kle y.2.1 (candK T pq a) ∧ N' = N)
/-- later labels are no worse, done ones the same -/
def Later (dn : Nat → Prop) (N N' : List Wn) : Prop := ∀ (j : Nat) (x : Wn), N[j]? = some x → (dn j → N'[j]? = some x) ∧ ∃ y, N'[j]? = some y ∧ y.1 = x.1 ∧ kle y.2.1 x.2.1
theorem Later.refl (dn : Nat → Prop) (N : List Wn) : Later dn N N := fun j x h => ⟨fun _ => h, x, h, rfl, kle_refl _⟩
theorem Later.trans {dn : Nat → Prop} {A B C : List Wn} (h : Later dn A B) (h2 : Later dn B C) : Later dn A C := by
  intro j x hx
  obtain ⟨a1, y, a2, a3, a4⟩ := h j x hx
  obtain ⟨b1, z, b2, b3, b4⟩ := h2 j y a2
  refine ⟨fun hd => (h2 j x (a1 hd)).1 hd, z, b2, b3.trans a3, kle_tr b4 a4⟩
/-- weights: done ones at most W, others at least W and not far above -/
def Wd (N : List Wn) (dn : Nat → Prop) (W : Nat) : Prop := ∀ (j : Nat) (q : Wn), N[j]? = some q → (dn j → q.2.1.1 ≤ W) ∧ (¬ dn j → W ≤ q.2.1.1 ∧ q.2.1.1 ≤ W + 594)
theorem RX_ok {T : Tn} {L0 : Ar} {N N' : List Wn} {dn : Nat → Prop} {W at_ : Nat} {pq : Wn} {a : Tr} (hw : TWf T) (h6 : tH T ≤ 6) (h : NI T L0 N dn) (hW : Wd N dn W) (hat : N[at_]? = some pq) (hd : dn at_) (hpw : pq.2.1.1 = W) (ha : a ∈ pulls T pq.1) (hr : RX T at_ pq a N N') :
    NI T L0 N' dn ∧ Wd N' (fun j => dn j ∧ j < N.length) W ∧ Later dn N N' ∧ (∃ (i : Nat) (y : Wn), N'[i]? = some y ∧ y.1 = mvA pq.1 a ∧ kle y.2.1 (candK T pq a)) ∧ N.length ≤ N'.length := by
  have hwt := wt_rng hw h6 (h.2.1 _ _ hat) ha
  have hWA : WA (tR T) (tH T) (mvA pq.1 a) := pulls_WA (h.2.1 _ _ hat) ha
  have hcw : (candK T pq a).1 = W + wtA T pq.1 a := by unfold candK; dsimp only; omega
  obtain ⟨n0, n1, n2, n3⟩ := h
  have hpos : 0 < N.length := (List.getElem?_eq_some_iff.mp n0).1
  rcases hr with ⟨hn, rfl⟩ | ⟨i, y, hy, hyL, hlt, rfl⟩ | ⟨i, y, hy, hyL, hle, rfl⟩
  · have hnew : (N ++ [(mvA pq.1 a, candK T pq a, (at_ : Int), cdT a)])[N.length]? = some (mvA pq.1 a, candK T pq a, (at_ : Int), cdT a) := by rw [List.getElem?_append_right (Nat.le_refl _), Nat.sub_self]; rfl
    have hatl := (List.getElem?_eq_some_iff.mp hat).1
    refine ⟨⟨by rw [List.getElem?_append_left hpos]; exact n0, fun j q hq => ?_, ?_, fun j q hq hj => ?_⟩, fun j q hq => ?_, fun j x hx => ?_, ⟨N.length, _, hnew, rfl, kle_refl _⟩, by simp⟩
    · by_cases c : j < N.length
      · rw [List.getElem?_append_left c] at hq; exact n1 j q hq
      · have hjl := (List.getElem?_eq_some_iff.mp hq).1
        rw [List.length_append, List.length_singleton] at hjl
        rw [show j = N.length by omega, hnew] at hq
        cases hq; exact hWA
    · rw [List.map_append, List.nodup_append]
      refine ⟨n2, by simp, fun x hx z hz => ?_⟩
      simp only [List.map_cons, List.map_nil, List.mem_singleton] at hz
      subst hz
      intro e; subst e; exact hn hx
    · by_cases c : j < N.length
      · rw [List.getElem?_append_left c] at hq
        obtain ⟨i, p, b, g1, g2⟩ := n3 j q hq hj
        exact ⟨i, p, b, by rw [List.getElem?_append_left (List.getElem?_eq_some_iff.mp g1).1]; exact g1, g2⟩
      · have hjl := (List.getElem?_eq_some_iff.mp hq).1
        rw [List.length_append, List.length_singleton] at hjl
        rw [show j = N.length by omega, hnew] at hq
        cases hq
        exact ⟨at_, pq, a, by rw [List.getElem?_append_left hatl]; exact hat, hd, rfl, ha, rfl, rfl, rfl⟩
    · by_cases c : j < N.length
      · rw [List.getElem?_append_left c] at hq
        obtain ⟨w1, w2⟩ := hW j q hq
        exact ⟨fun x => w1 x.1, fun x => w2 (fun y => x ⟨y, c⟩)⟩
      · have hjl := (List.getElem?_eq_some_iff.mp hq).1
        rw [List.length_append, List.length_singleton] at hjl
        rw [show j = N.length by omega, hnew] at hq
        cases hq
        exact ⟨fun x => absurd x.2 (by omega), fun _ => by dsimp only; omega⟩
    · have hjl := (List.getElem?_eq_some_iff.mp hx).1
      exact ⟨fun _ => by rw [List.getElem?_append_left hjl]; exact hx, x, by rw [List.getElem?_append_left hjl]; exact hx, rfl, kle_refl _⟩
  · have hil := (List.getElem?_eq_some_iff.mp hy).1
    have hyw : W < y.2.1.1 := by
      have : (candK T pq a).1 ≤ y.2.1.1 := kle_w (fun h => klt_irr _ (klt_tr hlt h))
      omega
    have hid : ¬ dn i := fun h => by have := (hW i y hy).1 h; omega
    have hi0 : i ≠ 0 := fun e => by rw [e, n0] at hy; cases hy; simp at hyw
    have hnew : (N.set i (mvA pq.1 a, candK T pq a, (at_ : Int), cdT a))[i]? = some (mvA pq.1 a, candK T pq a, (at_ : Int), cdT a) := by rw [List.getElem?_set_self hil]
    have hold : ∀ j, j ≠ i → (N.set i (mvA pq.1 a, candK T pq a, (at_ : Int), cdT a))[j]? = N[j]? := fun j hj => List.getElem?_set_ne (Ne.symm hj)
    have hda : ∀ j, dn j → j ≠ i := fun j hj e => hid (e ▸ hj)
    refine ⟨⟨by rw [hold 0 (Ne.symm hi0)]; exact n0, fun j q hq => ?_, ?_, fun j q hq hj => ?_⟩, fun j q hq => ?_, fun j x hx => ?_, ⟨i, _, hnew, rfl, kle_refl _⟩, by simp⟩
    · by_cases c : j = i
      · rw [c, hnew] at hq; cases hq; exact hWA
      · rw [hold j c] at hq; exact n1 j q hq
    · have : (N.set i (mvA pq.1 a, candK T pq a, (at_ : Int), cdT a)).map (fun q => q.1) = N.map fun q => q.1 := by
        apply List.ext_getElem?
        intro j
        rw [List.getElem?_map, List.getElem?_map]
        by_cases c : j = i
        · rw [c, hnew, hy]; simp [hyL]
        · rw [hold j c]
      rw [this]; exact n2
    · by_cases c : j = i
      · rw [c, hnew] at hq
        cases hq
        exact ⟨at_, pq, a, by rw [hold _ (hda _ hd)]; exact hat, hd, rfl, ha, rfl, rfl, rfl⟩
      · rw [hold j c] at hq
        obtain ⟨k, p, b, g1, g2, g3⟩ := n3 j q hq hj
        exact ⟨k, p, b, by rw [hold k (hda k g2)]; exact g1, g2, g3⟩
    · by_cases c : j = i
      · rw [c, hnew] at hq
        cases hq
        subst c
        exact ⟨fun x => absurd x.1 hid, fun _ => by dsimp only; omega⟩
      · rw [hold j c] at hq
        obtain ⟨w1, w2⟩ := hW j q hq
        have hjl := (List.getElem?_eq_some_iff.mp hq).1
        exact ⟨fun x => w1 x.1, fun x => w2 (fun y => x ⟨y, hjl⟩)⟩
    · by_cases c : j = i
      · subst c
        rw [hy] at hx; cases hx
        exact ⟨fun h => absurd h hid, _, hnew, hyL.symm, fun h => klt_irr _ (klt_tr hlt h)⟩
      · exact ⟨fun _ => by rw [hold j c]; exact hx, x, by rw [hold j c]; exact hx, rfl, kle_refl _⟩
  · refine ⟨⟨n0, n1, n2, n3⟩, fun j q hq => ?_, Later.refl _ _, ⟨i, y, hy, hyL, hle⟩, Nat.le_refl _⟩
    obtain ⟨w1, w2⟩ := hW j q hq
    have hjl := (List.getElem?_eq_some_iff.mp hq).1
    exact ⟨fun x => w1 x.1, fun x => w2 (fun y => x ⟨y, hjl⟩)⟩
/-- what the class calls better is better -/
theorem better_iff {T : Tn} {L0 : Ar} {N : List Wn} {dn : Nat → Prop} {at_ : Nat} {pq : Wn} {a : Tr} (hw : TWf T) (h6 : tH T ≤ 6) (w0 : WA (tR T) (tH T) L0) (h : NI T L0 N dn) (hat : N[at_]? = some pq) (ha : a ∈ pulls T pq.1) {i k : Nat} {y p : Wn} (hy : N[i]? = some y) (hyL : y.1 = mvA pq.1 a) (hi : 0 < i) (hk : y.2.2.1 = (k : Int)) (hp : N[k]? = some p) (he : (candK T pq a).1 = y.2.1.1) :
    klt (candK T pq a) y.2.1 ↔ ltc pq.2.1.2 p.2.1.2 := by
  obtain ⟨k', p', b, g1, -, g3, g4, g5, g6, g7⟩ := h.2.2.2 i y hy hi
  have : k' = k := by rw [hk] at g3; omega
  subst this
  rw [hp] at g1
  cases g1
  have hyc : y.2.1.2 = cdT b :: p.2.1.2 := by rw [g7]; rfl
  unfold klt ltc
  have hc2 : (candK T pq a).2 = cdT a :: pq.2.1.2 := rfl
  rw [hyc, hc2, lxl]
  simp only [List.length_cons]
  constructor
  · rintro (x | ⟨-, x | ⟨x, z | ⟨z, z2⟩⟩⟩)
    · omega
    · exact Or.inl (by omega)
    · exact Or.inr ⟨by omega, z⟩
    · exfalso
      obtain ⟨r, r1, r2⟩ := h.row _ _ _ hat rfl
      obtain ⟨s, s1, s2⟩ := h.row _ _ _ hp rfl
      obtain ⟨-, eL, -⟩ := RwR_codes hw w0 r1 s1 (by rw [← r2, ← s2, z])
      have hb : b ∈ pulls T pq.1 := eL ▸ g4
      have : a = b := mvA_inj (h.2.1 _ _ hat) ha hb (by rw [← hyL, g5, eL])
      rw [this] at z2; omega
  · rintro (x | ⟨x, z⟩)
    · exact Or.inr ⟨he, Or.inl (by omega)⟩
    · exact Or.inr ⟨he, Or.inr ⟨by omega, Or.inl z⟩⟩
theorem nd_len {n : Nat} {l : List Nat} (nd : l.Nodup) (h : ∀ x, x ∈ l → x < n) : l.length ≤ n := by
  refine fb_holes n l.length (fun i => l.getD i 0) (fun i hi => h _ (gd_mem 0 hi)) (fun i j hij hj e => ?_)
  have e : l.getD i 0 = l.getD j 0 := e
  rw [List.getD_eq_getElem?_getD, List.getD_eq_getElem?_getD, List.getElem?_eq_getElem (show i < l.length by omega), List.getElem?_eq_getElem hj] at e
  have : l[i]? = l[j]? := by rw [List.getElem?_eq_getElem (show i < l.length by omega), List.getElem?_eq_getElem hj]; exact congrArg some e
  have := (List.getElem?_inj (show i < l.length by omega) nd).mp this
  omega
