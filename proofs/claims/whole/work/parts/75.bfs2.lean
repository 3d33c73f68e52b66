/-! STATES IN THE ORDER IN WHICH THEY ARE COME TO -/
abbrev Nd : Type := Ar × Int × Nat × Nat
def mvA (L : Ar) (a : Tr) : Ar := mv L a.1 a.2.1 a.2.2
def arrs (Q : List Nd) : List Ar := Q.map fun q => q.1
def dep (Q : List Nd) (i : Nat) : Nat := match Q[i]? with | some q => q.2.2.2 | none => 0
def put1 (L : Ar) (i d : Nat) (Q : List Nd) (a : Tr) : List Nd := if mvA L a ∈ arrs Q then Q else Q ++ [(mvA L a, (i : Int), cdT a, d + 1)]
def putL (L : Ar) (i d : Nat) : List Tr → List Nd → List Nd
  | [], Q => Q
  | a :: l, Q => putL L i d l (put1 L i d Q a)
noncomputable def growA (T : Tn) (Q : List Nd) (i : Nat) : List Nd := match Q[i]? with | none => Q | some q => putL q.1 i q.2.2.2 (pulls T q.1) Q
noncomputable def bq (T : Tn) (most : Nat) (L0 : Ar) : Nat → List Nd
  | 0 => [(L0, -1, 0, 0)]
  | i + 1 => if dep (bq T most L0 i) i < most then growA T (bq T most L0 i) i else bq T most L0 i
def QW (T : Tn) (L0 : Ar) (Q : List Nd) : Prop := Q[0]? = some (L0, -1, 0, 0) ∧ (∀ L, L ∈ arrs Q → WA (tR T) (tH T) L) ∧ (arrs Q).Nodup ∧
  ∀ (j : Nat) (q : Nd), Q[j]? = some q → 0 < j → ∃ (i : Nat) (pq : Nd) (a : Tr), i < j ∧ Q[i]? = some pq ∧ q.2.1 = (i : Int) ∧ a ∈ pulls T pq.1 ∧ q.1 = mvA pq.1 a ∧ q.2.2.1 = cdT a ∧ q.2.2.2 = pq.2.2.2 + 1
theorem pulls_ok {T : Tn} {L : Ar} {a : Tr} (h : a ∈ pulls T L) : okP T L a.1 a.2.1 a.2.2 := by
  unfold pulls pulF at h
  rw [List.mem_flatMap] at h
  obtain ⟨f, -, h⟩ := h
  unfold pulM at h
  rw [List.mem_flatMap] at h
  obtain ⟨m, -, h⟩ := h
  unfold pulT at h
  rw [List.mem_map] at h
  obtain ⟨t, h, rfl⟩ := h
  rw [List.mem_filter] at h
  exact okb_iff.mp h.2
theorem pulls_in {T : Tn} {L : Ar} {f m t : Nat} (h : okP T L f m t) : (f, m, t) ∈ pulls T L := by
  obtain ⟨h1, h2, h3, h4, h5⟩ := h.1
  unfold pulls pulF
  rw [List.mem_flatMap]
  refine ⟨f, List.mem_range'_1.mpr ⟨by omega, by omega⟩, ?_⟩
  unfold pulM
  rw [List.mem_flatMap]
  refine ⟨m, List.mem_range'_1.mpr ⟨by omega, by omega⟩, ?_⟩
  unfold pulT
  rw [List.mem_map]
  exact ⟨t, List.mem_filter.mpr ⟨List.mem_range'_1.mpr ⟨by omega, by omega⟩, okb_iff.mpr h⟩, rfl⟩
theorem pulls_WA {T : Tn} {L : Ar} {a : Tr} (wL : WA (tR T) (tH T) L) (h : a ∈ pulls T L) : WA (tR T) (tH T) (mvA L a) := by
  have h1 := (pulls_ok h).1
  exact wL.mvd h1.2.2.1 h1.1 h1.2.1 h1.2.2.2.2
theorem arrs_app (A B : List Nd) : arrs (A ++ B) = arrs A ++ arrs B := by simp [arrs]
theorem put1_pre (L : Ar) (i d : Nat) (Q : List Nd) (a : Tr) : Q <+: put1 L i d Q a := by
  unfold put1; split
  · exact List.prefix_refl _
  · exact List.prefix_append _ _
theorem putL_pre (L : Ar) (i d : Nat) : ∀ (l : List Tr) (Q : List Nd), Q <+: putL L i d l Q
  | [], Q => List.prefix_refl _
  | a :: l, Q => (put1_pre L i d Q a).trans (putL_pre L i d l _)
theorem putL_app (L : Ar) (i d : Nat) : ∀ (l k : List Tr) (Q : List Nd), putL L i d (l ++ k) Q = putL L i d k (putL L i d l Q)
  | [], _, _ => rfl
  | a :: l, k, Q => by rw [List.cons_append, putL, putL, putL_app L i d l k]
theorem growA_pre (T : Tn) (Q : List Nd) (i : Nat) : Q <+: growA T Q i := by
  unfold growA; split
  · exact List.prefix_refl _
  · exact putL_pre _ _ _ _ _
theorem pre_get {A B : List Nd} (h : A <+: B) {i : Nat} {q : Nd} (hi : A[i]? = some q) : B[i]? = some q := by
  obtain ⟨C, rfl⟩ := h
  have := (List.getElem?_eq_some_iff.mp hi).1
  rw [List.getElem?_append_left this]; exact hi
theorem pre_get' {A B : List Nd} (h : A <+: B) {i : Nat} (hi : i < A.length) : B[i]? = A[i]? := by
  obtain ⟨C, rfl⟩ := h
  rw [List.getElem?_append_left hi]
theorem pre_dep {A B : List Nd} (h : A <+: B) {i : Nat} (hi : i < A.length) : dep B i = dep A i := by unfold dep; rw [pre_get' h hi]
theorem QW.put {T : Tn} {L0 : Ar} {Q : List Nd} (h : QW T L0 Q) {i : Nat} {q : Nd} (hq : Q[i]? = some q) {a : Tr} (ha : a ∈ pulls T q.1) : QW T L0 (put1 q.1 i q.2.2.2 Q a) := by
  unfold put1
  split
  · exact h
  · rename_i hn
    obtain ⟨h0, h1, h2, h3⟩ := h
    have hil := (List.getElem?_eq_some_iff.mp hq).1
    have hqm : q.1 ∈ arrs Q := List.mem_map.mpr ⟨q, List.mem_of_getElem? hq, rfl⟩
    refine ⟨?_, ?_, ?_, ?_⟩
    · rw [List.getElem?_append_left (by omega)]; exact h0
    · intro L hL
      rw [arrs_app, List.mem_append] at hL
      rcases hL with hL | hL
      · exact h1 L hL
      · simp only [arrs, List.map_cons, List.map_nil, List.mem_singleton] at hL
        subst hL; exact pulls_WA (h1 _ hqm) ha
    · rw [arrs_app, List.nodup_append]
      refine ⟨h2, by simp [arrs], ?_⟩
      intro x hx y hy
      simp only [arrs, List.map_cons, List.map_nil, List.mem_singleton] at hy
      subst hy
      intro e; subst e; exact hn hx
    · intro j r hr hj
      by_cases hjl : j < Q.length
      · rw [List.getElem?_append_left hjl] at hr
        obtain ⟨i', pq, a', g1, g2, g3⟩ := h3 j r hr hj
        exact ⟨i', pq, a', g1, by rw [List.getElem?_append_left (by omega)]; exact g2, g3⟩
      · rw [List.getElem?_append_right (by omega)] at hr
        have : j - Q.length = 0 := by
          have := (List.getElem?_eq_some_iff.mp hr).1
          simp at this; omega
        rw [this] at hr
        simp only [List.getElem?_cons_zero, Option.some.injEq] at hr
        subst hr
        exact ⟨i, q, a, by omega, by rw [List.getElem?_append_left hil]; exact hq, rfl, ha, rfl, rfl, rfl⟩
theorem QW.putL {T : Tn} {L0 : Ar} {i : Nat} {q : Nd} : ∀ (l : List Tr) (Q : List Nd), QW T L0 Q → Q[i]? = some q → (∀ a, a ∈ l → a ∈ pulls T q.1) → QW T L0 (putL q.1 i q.2.2.2 l Q)
  | [], Q, h, _, _ => h
  | a :: l, Q, h, hq, hl => QW.putL l _ (h.put hq (hl a List.mem_cons_self)) (pre_get (put1_pre _ _ _ _ _) hq) (fun b hb => hl b (List.mem_cons_of_mem _ hb))
theorem QW.grow {T : Tn} {L0 : Ar} {Q : List Nd} (h : QW T L0 Q) (i : Nat) : QW T L0 (growA T Q i) := by
  unfold growA
  split
  · exact h
  · rename_i q hq
    exact QW.putL _ _ h hq (fun a ha => ha)
theorem QW.len {T : Tn} {L0 : Ar} {Q : List Nd} (h : QW T L0 Q) (hH : tH T ≤ 8) (hRH : 0 < tH T → 0 < tR T) : Q.length ≤ ways (tR T) (tH T) := by
  have := few hH hRH h.2.1 h.2.2.1
  rw [arrs, List.length_map] at this; exact this
theorem QW.pos {T : Tn} {L0 : Ar} {Q : List Nd} (h : QW T L0 Q) : 0 < Q.length := (List.getElem?_eq_some_iff.mp h.1).1
theorem bq_QW {T : Tn} {most : Nat} {L0 : Ar} (w : WA (tR T) (tH T) L0) : ∀ i, QW T L0 (bq T most L0 i)
  | 0 => by
    refine ⟨rfl, fun L hL => ?_, by simp [arrs, bq], fun j q hq hj => ?_⟩
    · simp only [arrs, bq, List.map_cons, List.map_nil, List.mem_singleton] at hL
      subst hL; exact w
    · have := (List.getElem?_eq_some_iff.mp hq).1
      simp only [bq, List.length_singleton] at this; omega
  | i + 1 => by
    rw [bq]
    split
    · exact (bq_QW w i).grow i
    · exact bq_QW w i
theorem bq_pre1 (T : Tn) (most : Nat) (L0 : Ar) (i : Nat) : bq T most L0 i <+: bq T most L0 (i + 1) := by
  rw [bq]; split
  · exact growA_pre _ _ _
  · exact List.prefix_refl _
theorem bq_pre (T : Tn) (most : Nat) (L0 : Ar) {i : Nat} : ∀ {j : Nat}, i ≤ j → bq T most L0 i <+: bq T most L0 j
  | 0, h => by rw [Nat.le_zero.mp h]; exact List.prefix_refl _
  | j + 1, h => by
    by_cases e : i = j + 1
    · rw [e]; exact List.prefix_refl _
    · exact (bq_pre T most L0 (i := i) (j := j) (by omega)).trans (bq_pre1 T most L0 j)
/-- the depths rise by one at most -/
def Mono (Q : List Nd) (i : Nat) : Prop := (∀ a b, a ≤ b → b < Q.length → dep Q a ≤ dep Q b) ∧ (i < Q.length → ∀ b, b < Q.length → dep Q b ≤ dep Q i + 1)
theorem dep_app {Q : List Nd} {x : Nd} {b : Nat} (h : b ≤ Q.length) : dep (Q ++ [x]) b = if b < Q.length then dep Q b else x.2.2.2 := by
  unfold dep
  by_cases c : b < Q.length
  · rw [if_pos c, List.getElem?_append_left c]
  · rw [if_neg c, List.getElem?_append_right (by omega), show b - Q.length = 0 by omega]; rfl
theorem Mono.put {Q : List Nd} {i : Nat} {q : Nd} (hq : Q[i]? = some q) (h : Mono Q i) (a : Tr) : Mono (put1 q.1 i q.2.2.2 Q a) i := by
  unfold put1
  split
  · exact h
  · have hil := (List.getElem?_eq_some_iff.mp hq).1
    have hdi : dep Q i = q.2.2.2 := by unfold dep; rw [hq]
    have h2 := h.2 hil
    refine ⟨fun a b hab hb => ?_, fun _ b hb => ?_⟩
    · rw [List.length_append, List.length_singleton] at hb
      rw [dep_app (by omega), dep_app (by omega)]
      by_cases c : b < Q.length
      · rw [if_pos (by omega), if_pos c]; exact h.1 a b hab c
      · rw [if_neg c]
        by_cases c2 : a < Q.length
        · rw [if_pos c2]; have := h2 a c2; show dep Q a ≤ q.2.2.2 + 1; omega
        · rw [if_neg c2]; exact Nat.le_refl _
    · rw [List.length_append, List.length_singleton] at hb
      rw [dep_app (by omega), dep_app (by omega), if_pos hil]
      by_cases c : b < Q.length
      · rw [if_pos c]; exact h2 b c
      · rw [if_neg c, hdi]; exact Nat.le_refl _
theorem Mono.putL {i : Nat} {q : Nd} : ∀ (l : List Tr) (Q : List Nd), Q[i]? = some q → Mono Q i → Mono (putL q.1 i q.2.2.2 l Q) i
  | [], _, _, h => h
  | a :: l, Q, hq, h => Mono.putL l _ (pre_get (put1_pre _ _ _ _ _) hq) (Mono.put hq h a)
theorem Mono.next {Q : List Nd} {i : Nat} (h : Mono Q i) : Mono Q (i + 1) := by
  refine ⟨h.1, fun hi b hb => ?_⟩
  have h1 := h.1 i (i + 1) (by omega) hi
  have h2 := h.2 (by omega) b hb
  omega
theorem bq_mono (T : Tn) (most : Nat) (L0 : Ar) : ∀ i, Mono (bq T most L0 i) i
  | 0 => by
    refine ⟨fun a b hab hb => ?_, fun _ b hb => ?_⟩
    · simp only [bq, List.length_singleton] at hb
      rw [show a = 0 by omega, show b = 0 by omega]; exact Nat.le_refl _
    · simp only [bq, List.length_singleton] at hb
      rw [show b = 0 by omega]; omega
  | i + 1 => by
    have ih := bq_mono T most L0 i
    apply Mono.next
    rw [bq]
    split
    · unfold growA
      split
      · exact ih
      · rename_i q hq
        exact Mono.putL _ _ hq ih
    · exact ih
theorem growA_none {T : Tn} {Q : List Nd} {i : Nat} (h : Q.length ≤ i) : growA T Q i = Q := by
  unfold growA; rw [List.getElem?_eq_none h]
theorem bq_stop1 {T : Tn} {most : Nat} {L0 : Ar} {i : Nat} (h : (bq T most L0 i).length ≤ i) : ∀ k, bq T most L0 (i + k) = bq T most L0 i
  | 0 => rfl
  | k + 1 => by
    rw [← Nat.add_assoc, bq, bq_stop1 h k]
    split
    · exact growA_none (by omega)
    · rfl
theorem bq_stop2 {T : Tn} {most : Nat} {L0 : Ar} {i : Nat} (hd : i < (bq T most L0 i).length) (h : most ≤ dep (bq T most L0 i) i) : ∀ k, bq T most L0 (i + k) = bq T most L0 i
  | 0 => rfl
  | k + 1 => by
    rw [← Nat.add_assoc, bq, bq_stop2 hd h k]
    split
    · rename_i hlt
      by_cases c : i + k < (bq T most L0 i).length
      · have := (bq_mono T most L0 i).1 i (i + k) (by omega) c
        omega
      · exact growA_none (by omega)
    · rfl
/-- all that are come to in that many pulls -/
noncomputable def FQ (T : Tn) (most : Nat) (L0 : Ar) : List Nd := bq T most L0 61000
theorem FQ_eq {T : Tn} {most : Nat} {L0 : Ar} {i : Nat} (h : (bq T most L0 i).length ≤ i ∨ (i < (bq T most L0 i).length ∧ most ≤ dep (bq T most L0 i) i)) (hi : i ≤ 61000) : FQ T most L0 = bq T most L0 i := by
  unfold FQ
  obtain ⟨k, hk⟩ : ∃ k, 61000 = i + k := ⟨61000 - i, by omega⟩
  rw [hk]
  rcases h with h | ⟨h, h2⟩
  · exact bq_stop1 h k
  · exact bq_stop2 h h2 k
theorem bq_FQ {T : Tn} {most : Nat} {L0 : Ar} {i : Nat} (hi : i ≤ 61000) : bq T most L0 i <+: FQ T most L0 := bq_pre T most L0 hi
/-- the first that is met -/
noncomputable def fmt (p : Ar → Prop) : List Nd → Option Nat
  | [] => none
  | q :: Q => @ite _ (p q.1) (Classical.propDecidable _) (some 0) ((fmt p Q).map (· + 1))
theorem fmt_some {p : Ar → Prop} : ∀ {Q : List Nd} {j : Nat}, fmt p Q = some j ↔ (∃ q : Nd, Q[j]? = some q ∧ p q.1) ∧ ∀ (i : Nat) (q : Nd), i < j → Q[i]? = some q → ¬ p q.1
  | [], j => by simp [fmt]
  | q :: Q, j => by
    rw [fmt]
    by_cases h : p q.1
    · rw [if_pos h]
      constructor
      · intro e; cases e; exact ⟨⟨q, rfl, h⟩, fun i _ hi => by omega⟩
      · intro ⟨_, h2⟩
        cases j with
        | zero => rfl
        | succ j => exact absurd h (h2 0 q (by omega) rfl)
    · rw [if_neg h]
      cases j with
      | zero =>
        constructor
        · intro e
          cases e2 : fmt p Q with
          | none => rw [e2] at e; cases e
          | some k => rw [e2] at e; simp at e
        · intro ⟨⟨r, hr, hp⟩, _⟩
          cases hr; exact absurd hp h
      | succ j =>
        have ih := fmt_some (p := p) (Q := Q) (j := j)
        constructor
        · intro e
          have e2 : fmt p Q = some j := by
            cases e2 : fmt p Q with
            | none => rw [e2] at e; cases e
            | some k => rw [e2] at e; simp at e; rw [e]
          obtain ⟨h1, h2⟩ := ih.mp e2
          refine ⟨by simpa using h1, fun i r hi hr => ?_⟩
          cases i with
          | zero => cases hr; exact h
          | succ i => exact h2 i r (by omega) (by simpa using hr)
        · intro ⟨h1, h2⟩
          rw [ih.mpr ⟨by simpa using h1, fun i r hi hr => h2 (i + 1) r (by omega) (by simpa using hr)⟩]; rfl
theorem fmt_none {p : Ar → Prop} : ∀ {Q : List Nd}, fmt p Q = none ↔ ∀ L, L ∈ arrs Q → ¬ p L
  | [] => by simp [fmt, arrs]
  | q :: Q => by
    rw [fmt]
    have ih := fmt_none (p := p) (Q := Q)
    by_cases h : p q.1
    · rw [if_pos h]
      constructor
      · intro e; cases e
      · intro h2; exact absurd h (h2 q.1 (by simp [arrs]))
    · rw [if_neg h]
      constructor
      · intro e L hL
        simp only [arrs, List.map_cons, List.mem_cons] at hL
        rcases hL with rfl | hL
        · exact h
        · refine ih.mp ?_ L hL
          cases e2 : fmt p Q with
          | none => rfl
          | some k => rw [e2] at e; cases e
      · intro h2
        rw [ih.mpr (fun L hL => h2 L (by simp only [arrs, List.map_cons, List.mem_cons]; exact Or.inr hL))]; rfl
theorem fmt_pre {p : Ar → Prop} {A B : List Nd} (h : A <+: B) {j : Nat} (hj : fmt p A = some j) : fmt p B = some j := by
  obtain ⟨⟨q, h1, h2⟩, h3⟩ := fmt_some.mp hj
  refine fmt_some.mpr ⟨⟨q, pre_get h h1, h2⟩, fun i r hi hr => ?_⟩
  have hl := (List.getElem?_eq_some_iff.mp h1).1
  exact h3 i r hi (by rw [← pre_get' h (show i < A.length by omega)]; exact hr)
/-- the row that leads to a state -/
def pathQ (Q : List Nd) : Nat → Nat → List Nat
  | 0, _ => []
  | d + 1, j => match Q[j]? with | some q => pathQ Q d q.2.1.toNat ++ [q.2.2.1] | none => []
def rowTo (Q : List Nd) (j : Nat) : List Nat := pathQ Q (dep Q j) j
theorem QW.par {T : Tn} {L0 : Ar} {Q : List Nd} (h : QW T L0 Q) {j : Nat} {q : Nd} (hq : Q[j]? = some q) : q.2.1.toNat ≤ j := by
  by_cases hj : 0 < j
  · obtain ⟨i, pq, a, h1, -, h3, -⟩ := h.2.2.2 j q hq hj
    rw [h3]; simp; omega
  · rw [show j = 0 by omega, h.1] at hq; cases hq; simp
theorem path_pre {T : Tn} {L0 : Ar} {A B : List Nd} (h : A <+: B) (hA : QW T L0 A) : ∀ (d j : Nat), j < A.length → pathQ B d j = pathQ A d j
  | 0, _, _ => rfl
  | d + 1, j, hj => by
    rw [pathQ, pathQ, pre_get' h hj]
    cases e : A[j]? with
    | none => rfl
    | some q =>
      have := hA.par e
      simp only
      rw [path_pre h hA d _ (by omega)]
theorem rowTo_pre {T : Tn} {L0 : Ar} {A B : List Nd} (h : A <+: B) (hA : QW T L0 A) {j : Nat} (hj : j < A.length) : rowTo B j = rowTo A j := by
  unfold rowTo; rw [pre_dep h hj, path_pre h hA _ _ hj]
