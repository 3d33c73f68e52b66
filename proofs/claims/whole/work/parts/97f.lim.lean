/-! THE QUEUE OF A SEARCH THAT GOES NO FURTHER -/
theorem putL_dep (L : Ar) (i d : Nat) : ∀ (l : List Tr) (Q : List Nd) (j : Nat), Q.length ≤ j → j < (putL L i d l Q).length → dep (putL L i d l Q) j = d + 1
  | [], Q, j, h, h2 => by rw [putL] at h2; omega
  | a :: l, Q, j, h, h2 => by
    rw [putL] at h2 ⊢
    by_cases c : (put1 L i d Q a).length ≤ j
    · exact putL_dep L i d l _ j c h2
    · have hp := putL_pre L i d l (put1 L i d Q a)
      rw [pre_dep hp (by omega)]
      unfold put1 at c ⊢
      split at c
      · omega
      · rename_i hn
        rw [List.length_append, List.length_singleton] at c
        rw [if_neg hn, dep_app (by omega), if_neg (by omega)]
theorem growA_dep {T : Tn} {Q : List Nd} {i j : Nat} (h : Q.length ≤ j) (h2 : j < (growA T Q i).length) : dep (growA T Q i) j = dep Q i + 1 := by
  unfold growA dep at *
  cases hq : Q[i]? with
  | none => rw [hq] at h2; dsimp only at h2; omega
  | some q =>
    rw [hq] at h2
    dsimp only at h2 ⊢
    exact putL_dep q.1 i q.2.2.2 (pulls T q.1) Q j h h2
theorem bq_dep {T : Tn} {m : Nat} {L0 : Ar} : ∀ (i j : Nat), j < (bq T m L0 i).length → dep (bq T m L0 i) j ≤ m
  | 0, j, h => by
    have : j = 0 := by rw [bq] at h; simpa using h
    subst this; exact Nat.zero_le _
  | i + 1, j, h => by
    have ih := bq_dep (T := T) (m := m) (L0 := L0) i
    rw [bq] at h ⊢
    split at h
    · rename_i c
      rw [if_pos c]
      by_cases c2 : j < (bq T m L0 i).length
      · rw [pre_dep (growA_pre T _ _) c2]; exact ih j c2
      · rw [growA_dep (by omega) h]; omega
    · rename_i c
      rw [if_neg c]; exact ih j h
theorem bq_same {T : Tn} {m m' : Nat} {L0 : Ar} : ∀ (i : Nat), (∀ j, j < i → dep (bq T m L0 j) j < m ∧ dep (bq T m L0 j) j < m') → bq T m' L0 i = bq T m L0 i
  | 0, _ => rfl
  | i + 1, h => by
    have ih := bq_same (T := T) (m := m) (m' := m') (L0 := L0) i (fun j hj => h j (by omega))
    have hi := h i (by omega)
    rw [bq, bq, ih, if_pos hi.1, if_pos hi.2]
/-- where the narrower search stops -/
theorem bq_stop {T : Tn} {m : Nat} {L0 : Ar} (w0 : WA (tR T) (tH T) L0) (hH : tH T ≤ 8) (hRH : 0 < tH T → 0 < tR T) (h60 : ways (tR T) (tH T) ≤ 60480) : ∃ i, i ≤ 61000 ∧ (∀ j, j < i → dep (bq T m L0 j) j < m) ∧ ((bq T m L0 i).length ≤ i ∨ (i < (bq T m L0 i).length ∧ m ≤ dep (bq T m L0 i) i)) := by
  have key : ∀ d i, i + d = 60481 → (∀ j, j < i → dep (bq T m L0 j) j < m) → ∃ i, i ≤ 61000 ∧ (∀ j, j < i → dep (bq T m L0 j) j < m) ∧ ((bq T m L0 i).length ≤ i ∨ (i < (bq T m L0 i).length ∧ m ≤ dep (bq T m L0 i) i)) := by
    intro d
    induction d with
    | zero =>
      intro i hi hj
      have := (bq_QW (most := m) w0 i).len hH hRH
      exact ⟨i, by omega, hj, Or.inl (by omega)⟩
    | succ d ih =>
      intro i hi hj
      by_cases c : (bq T m L0 i).length ≤ i
      · exact ⟨i, by omega, hj, Or.inl c⟩
      · by_cases c2 : m ≤ dep (bq T m L0 i) i
        · exact ⟨i, by omega, hj, Or.inr ⟨by omega, c2⟩⟩
        · refine ih (i + 1) (by omega) (fun j hj' => ?_)
          by_cases e : j = i
          · subst e; omega
          · exact hj j (by omega)
  exact key 60481 0 (by omega) (fun j hj => by omega)
theorem FQ_lim {T : Tn} {m m' : Nat} {L0 : Ar} (w0 : WA (tR T) (tH T) L0) (hH : tH T ≤ 8) (hRH : 0 < tH T → 0 < tR T) (h60 : ways (tR T) (tH T) ≤ 60480) (hm : m ≤ m') : FQ T m L0 <+: FQ T m' L0 ∧ (∀ j, j < (FQ T m L0).length → dep (FQ T m L0) j ≤ m) ∧ ∀ j, j < (FQ T m' L0).length → dep (FQ T m' L0) j ≤ m → j < (FQ T m L0).length := by
  obtain ⟨i, hi, hj, hs⟩ := bq_stop (m := m) w0 hH hRH h60
  have e1 : FQ T m L0 = bq T m L0 i := FQ_eq hs hi
  have e2 := bq_same (m' := m') i (fun j h => ⟨hj j h, by have := hj j h; omega⟩)
  have hpre : bq T m' L0 i <+: FQ T m' L0 := bq_FQ hi
  rw [e1]
  refine ⟨by rw [← e2]; exact hpre, fun j h => bq_dep i j h, fun j h hd => ?_⟩
  rw [← e2]
  rw [← e2] at hs
  rcases hs with hs | ⟨hs1, hs2⟩
  · rw [FQ_eq (Or.inl hs) hi] at h; exact h
  · by_cases c : j < (bq T m' L0 i).length
    · exact c
    · exfalso
      have key : ∀ k, ∀ j, (bq T m' L0 i).length ≤ j → j < (bq T m' L0 (i + k)).length → m + 1 ≤ dep (bq T m' L0 (i + k)) j := by
        intro k
        induction k with
        | zero => intro j h1 h2; rw [Nat.add_zero] at h2; omega
        | succ k ih =>
          intro j h1 h2
          rw [← Nat.add_assoc, bq] at h2 ⊢
          split at h2
          · rename_i cc
            rw [if_pos cc]
            by_cases c2 : j < (bq T m' L0 (i + k)).length
            · rw [pre_dep (growA_pre T _ _) c2]; exact ih j h1 c2
            · rw [growA_dep (by omega) h2]
              by_cases c3 : i + k < (bq T m' L0 (i + k)).length
              · have hmono := (bq_mono T m' L0 (i + k)).1 i (i + k) (by omega) c3
                have hp := bq_pre T m' L0 (show i ≤ i + k by omega)
                rw [pre_dep hp hs1] at hmono
                omega
              · rw [growA_none (by omega)] at h2; omega
          · rename_i cc
            rw [if_neg cc]; exact ih j h1 h2
      obtain ⟨k, hk⟩ : ∃ k, 61000 = i + k := ⟨61000 - i, by omega⟩
      unfold FQ at h hd
      rw [hk] at h hd
      have := key k j (by omega) h
      omega
theorem FQ_QW {T : Tn} {m : Nat} {L0 : Ar} (w0 : WA (tR T) (tH T) L0) : QW T L0 (FQ T m L0) := bq_QW w0 _
theorem FQ_big {T : Tn} {m : Nat} {L0 : Ar} (w0 : WA (tR T) (tH T) L0) (hH : tH T ≤ 8) (hRH : 0 < tH T → 0 < tR T) (h60 : ways (tR T) (tH T) ≤ 60480) (hm : 60480 ≤ m) : FQ T m L0 = FQ T 60480 L0 := by
  obtain ⟨h1, h2, h3⟩ := FQ_lim w0 hH hRH h60 hm
  have hl := (FQ_QW (m := m) w0).len hH hRH
  have : (FQ T m L0).length ≤ (FQ T 60480 L0).length := by
    by_cases c : (FQ T m L0).length ≤ (FQ T 60480 L0).length
    · exact c
    · have hd := (FQ_QW (m := m) w0).dep_le (FQ T 60480 L0).length (by omega)
      have := h3 (FQ T 60480 L0).length (by omega) (by omega)
      omega
  exact (h1.eq_of_length (by have := h1.length_le; omega)).symm
theorem FQ_mono {T : Tn} {m : Nat} {L0 : Ar} {i j : Nat} (h : i ≤ j) (hj : j < (FQ T m L0).length) : dep (FQ T m L0) i ≤ dep (FQ T m L0) j := (bq_mono T m L0 61000).1 i j h hj
/-- what a search that goes so far finds -/
theorem fmt_lim {T : Tn} {m : Nat} {L0 : Ar} {p : Ar → Prop} (w0 : WA (tR T) (tH T) L0) (hH : tH T ≤ 8) (hRH : 0 < tH T → 0 < tR T) (h60 : ways (tR T) (tH T) ≤ 60480) (hm : m ≤ 60480) : (∀ j, fmt p (FQ T m L0) = some j → fmt p (FQ T 60480 L0) = some j ∧ dep (FQ T 60480 L0) j ≤ m) ∧ (fmt p (FQ T m L0) = none → ∀ j, fmt p (FQ T 60480 L0) = some j → m < dep (FQ T 60480 L0) j) := by
  obtain ⟨h1, h2, h3⟩ := FQ_lim w0 hH hRH h60 hm
  refine ⟨fun j hj => ?_, fun hn j hj => ?_⟩
  · obtain ⟨⟨q, hq, -⟩, -⟩ := fmt_some.mp hj
    have hl := (List.getElem?_eq_some_iff.mp hq).1
    have := h2 j hl
    rw [← pre_dep h1 hl] at this
    exact ⟨fmt_pre h1 hj, this⟩
  · obtain ⟨⟨q, hq, hp⟩, -⟩ := fmt_some.mp hj
    have hl := (List.getElem?_eq_some_iff.mp hq).1
    by_cases c : dep (FQ T 60480 L0) j ≤ m
    · have hl2 := h3 j hl c
      have hq2 : (FQ T m L0)[j]? = some q := by rw [← pre_get' h1 hl2]; exact hq
      exact absurd hp (fmt_none.mp hn q.1 (List.mem_map.mpr ⟨q, List.mem_of_getElem? hq2, rfl⟩))
    · omega
