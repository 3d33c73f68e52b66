theorem fb_holes : ∀ (m n : Nat) (f : Nat → Nat), (∀ i, i < n → f i < m) → (∀ i j, i < j → j < n → f i ≠ f j) → n ≤ m := by
  intro m
  induction m with
  | zero =>
    intro n f h1 _
    rcases Nat.eq_zero_or_pos n with h | h
    · omega
    · exact absurd (h1 0 h) (Nat.not_lt_zero _)
  | succ m ih =>
    intro n f h1 h2
    by_cases hx : ∃ i, i < n ∧ f i = m
    · obtain ⟨a, ha, hfa⟩ := hx
      have hg := ih (n - 1) (fun i => if i < a then f i else f (i + 1)) (by
        intro i hi
        by_cases q : i < a
        · simp only [if_pos q]
          have b1 := h1 i (by omega)
          have b2 := h2 i a q ha
          omega
        · simp only [if_neg q]
          have b1 := h1 (i + 1) (by omega)
          have b2 := h2 a (i + 1) (by omega) (by omega)
          omega) (by
        intro i j hij hj
        by_cases q : i < a
        · by_cases r : j < a
          · simp only [if_pos q, if_pos r]
            exact h2 i j hij (by omega)
          · simp only [if_pos q, if_neg r]
            exact h2 i (j + 1) (by omega) (by omega)
        · have r : ¬ j < a := by omega
          simp only [if_neg q, if_neg r]
          exact h2 (i + 1) (j + 1) (by omega) (by omega))
      omega
    · have hg := ih n f (fun i hi => by
        have b1 := h1 i hi
        have b2 : f i ≠ m := fun e => hx ⟨i, hi, e⟩
        omega) h2
      omega
/-! (fb_holes is pasted from the kit's COUNTS.) HOW MANY WAYS TO STAND THERE ARE -/
def ways (R : Nat) : Nat → Nat
  | 0 => 1
  | H + 1 => ways R H * (R + H)
def insD (i x : Nat) (l : List Nat) : List Nat := l.take i ++ x :: l.drop i
def allD (R : Nat) : Nat → List (List Nat)
  | 0 => [List.replicate (R - 1) 8]
  | H + 1 => (allD R H).flatMap fun D => (List.range (R + H)).map fun i => insD i H D
theorem allD_len (R : Nat) : ∀ H, (allD R H).length = ways R H
  | 0 => rfl
  | H + 1 => by
    rw [allD, ways, ← allD_len R H]
    generalize allD R H = l
    induction l with
    | nil => simp
    | cons x l ih => rw [List.flatMap_cons, List.length_append, ih, List.length_cons, Nat.add_mul]; simp; omega
theorem allD_mem {R : Nat} (hR : 0 < R) : ∀ (H : Nat) (D : List Nat), H ≤ 8 → D.Perm (List.range H ++ List.replicate (R - 1) 8) → D ∈ allD R H
  | 0, D, _, h => by
    simp only [List.range_zero, List.nil_append] at h
    rw [allD, List.mem_singleton]
    exact List.perm_replicate.mp h
  | H + 1, D, hH, h => by
    have hm : H ∈ D := by rw [h.mem_iff]; simp
    obtain ⟨A, B, rfl⟩ := List.append_of_mem hm
    have h1 : (H :: (A ++ B)).Perm (H :: (List.range H ++ List.replicate (R - 1) 8)) := by
      refine (List.perm_middle.symm.trans h).trans ?_
      rw [List.range_succ, List.append_assoc]
      exact List.perm_middle
    have h2 := h1.cons_inv
    have h3 := allD_mem hR H (A ++ B) (by omega) h2
    have hl := h2.length_eq
    simp only [List.length_append, List.length_range, List.length_replicate] at hl
    rw [allD, List.mem_flatMap]
    refine ⟨_, h3, List.mem_map.mpr ⟨A.length, List.mem_range.mpr (by omega), ?_⟩⟩
    rw [insD, List.take_left, List.drop_left]
theorem fl8_inj : ∀ (A B : Ar), (∀ x, x ∈ fl [] A → x ≠ 8) → (∀ x, x ∈ fl [] B → x ≠ 8) → fl [8] A = fl [8] B → A = B
  | [], [], _, _, _ => rfl
  | [], y :: B, _, _, h => by rw [fl_cons] at h; simp [fl] at h
  | x :: A, [], _, _, h => by rw [fl_cons] at h; simp [fl] at h
  | x :: A, y :: B, ha, hb, h => by
    rw [fl_cons, fl_cons] at h
    simp only [List.cons_append, List.nil_append, List.cons.injEq, true_and] at h
    have hx : ∀ z, z ∈ x → z ≠ 8 := fun z hz => ha z (by rw [fl_cons]; simp [hz])
    have hy : ∀ z, z ∈ y → z ≠ 8 := fun z hz => hb z (by rw [fl_cons]; simp [hz])
    have key : ∀ (x y : List Nat) (u v : Ar), (∀ z, z ∈ x → z ≠ 8) → (∀ z, z ∈ y → z ≠ 8) → x ++ fl [8] u = y ++ fl [8] v → x = y ∧ fl [8] u = fl [8] v := by
      intro x
      induction x with
      | nil =>
        intro y u v _ hy h
        cases y with
        | nil => exact ⟨rfl, h⟩
        | cons z y =>
          cases u with
          | nil => simp [fl] at h
          | cons a u => rw [fl_cons] at h; simp only [List.nil_append, List.cons_append, List.cons.injEq] at h; exact absurd h.1.symm (hy z List.mem_cons_self)
      | cons z x ih =>
        intro y u v hx hy h
        cases y with
        | nil =>
          cases v with
          | nil => simp [fl] at h
          | cons a v => rw [fl_cons] at h; simp only [List.nil_append, List.cons_append, List.cons.injEq] at h; exact absurd h.1 (hx z List.mem_cons_self)
        | cons w y =>
          simp only [List.cons_append, List.cons.injEq] at h
          obtain ⟨rfl, h⟩ := h
          obtain ⟨rfl, h2⟩ := ih y u v (fun a h => hx a (List.mem_cons_of_mem _ h)) (fun a h => hy a (List.mem_cons_of_mem _ h)) h
          exact ⟨rfl, h2⟩
    obtain ⟨rfl, h2⟩ := key x y A B hx hy h
    rw [fl8_inj A B (fun z hz => ha z (by rw [fl_cons]; simp [hz])) (fun z hz => hb z (by rw [fl_cons]; simp [hz])) h2]
theorem dgs_inj {R H : Nat} {A B : Ar} (hA : WA R H A) (hB : WA R H B) (hH : H ≤ 8) (h : dgs A = dgs B) : A = B := by
  have a8 : ∀ x, x ∈ fl [] A → x ≠ 8 := fun x hx => by have := hA.lt.mp hx; omega
  have b8 : ∀ x, x ∈ fl [] B → x ≠ 8 := fun x hx => by have := hB.lt.mp hx; omega
  cases A with
  | nil =>
    have : B.length = 0 := by rw [hB.1, ← hA.1]; rfl
    exact (List.length_eq_zero_iff.mp this).symm
  | cons x A =>
    cases B with
    | nil =>
      have : (x :: A).length = 0 := by rw [hA.1, ← hB.1]; rfl
      simp at this
    | cons y B =>
      refine fl8_inj _ _ a8 b8 ?_
      unfold dgs at h
      rw [fl_cons, fl_cons] at h ⊢
      simpa using h
theorem wn_inj {R H : Nat} {A B : Ar} (hA : WA R H A) (hB : WA R H B) (hH : H ≤ 8) (h : wn A = wn B) : A = B :=
  dgs_inj hA hB hH (dg_inj (dgs_16 hA hH) (dgs_16 hB hH) (by rw [dgs_len hA, dgs_len hB]) h)
theorem fl8_perm (L : Ar) : (fl [8] L).Perm (fl [] L ++ List.replicate L.length 8) := by
  induction L with
  | nil => exact List.Perm.refl _
  | cons x L ih =>
    rw [fl_cons, fl_cons, List.length_cons, List.replicate_succ, List.nil_append, List.append_assoc, List.append_assoc]
    rw [List.singleton_append]
    refine List.Perm.trans (List.Perm.cons _ (List.Perm.append_left x ih)) ?_
    rw [← List.append_assoc, ← List.append_assoc]
    exact List.perm_middle.symm
theorem dgs_mem {R H : Nat} {L : Ar} (hL : WA R H L) (hR : 0 < R) (hH : H ≤ 8) : dgs L ∈ allD R H := by
  refine allD_mem hR H _ hH ?_
  have h1 := fl8_perm L
  rw [hL.1] at h1
  have h2 : fl [8] L = 8 :: dgs L := by
    cases L with
    | nil => have := hL.1; simp at this; omega
    | cons x L => rw [dgs, fl_cons]; rfl
  obtain ⟨R', rfl⟩ : ∃ k, R = k + 1 := ⟨R - 1, by omega⟩
  rw [h2, List.replicate_succ] at h1
  have h3 := (h1.trans List.perm_middle).cons_inv
  exact h3.trans (List.Perm.append_right _ hL.2)
/-- of states that differ there are no more than ways -/
theorem few {R H : Nat} (hH : H ≤ 8) (hRH : 0 < H → 0 < R) {Q : List Ar} (hv : ∀ L, L ∈ Q → WA R H L) (nd : Q.Nodup) : Q.length ≤ ways R H := by
  by_cases hR : 0 < R
  · rw [← allD_len]
    refine fb_holes _ _ (fun i => (allD R H).idxOf (dgs (Q.getD i []))) (fun i hi => ?_) (fun i j hij hj => ?_)
    · refine List.idxOf_lt_length_of_mem (dgs_mem (hv _ ?_) hR hH)
      exact gd_mem _ hi
    · intro e
      have m1 := dgs_mem (hv _ (gd_mem [] (show i < Q.length by omega))) hR hH
      have m2 := dgs_mem (hv _ (gd_mem [] hj)) hR hH
      have g1 := List.getElem_idxOf (List.idxOf_lt_length_of_mem m1)
      have g2 := List.getElem_idxOf (List.idxOf_lt_length_of_mem m2)
      have e2 : dgs (Q.getD i []) = dgs (Q.getD j []) := by
        rw [← g1, ← g2]; congr 1
      have e3 := dgs_inj (hv _ (gd_mem [] (show i < Q.length by omega))) (hv _ (gd_mem [] hj)) hH e2
      rw [List.getD_eq_getElem?_getD, List.getD_eq_getElem?_getD, List.getElem?_eq_getElem (show i < Q.length by omega), List.getElem?_eq_getElem hj] at e3
      have : Q[i]? = Q[j]? := by rw [List.getElem?_eq_getElem (show i < Q.length by omega), List.getElem?_eq_getElem hj]; exact congrArg some e3
      have := (List.getElem?_inj (show i < Q.length by omega) nd).mp this
      omega
  · have hR0 : R = 0 := by omega
    have hH0 : H = 0 := by omega
    subst hR0 hH0
    match Q, hv, nd with
    | [], _, _ => simp [ways]
    | [a], _, _ => simp [ways]
    | a :: b :: Q, hv, nd =>
      have h1 : a = [] := List.length_eq_zero_iff.mp (hv a List.mem_cons_self).1
      have h2 : b = [] := List.length_eq_zero_iff.mp (hv b (List.mem_cons_of_mem _ List.mem_cons_self)).1
      subst h1 h2
      simp at nd
theorem ways_le {R H : Nat} (hR : R ≤ 4) (hH : H ≤ 6) : 1 ≤ ways R H ∨ R = 0 := by
  by_cases h : R = 0
  · exact Or.inr h
  · left
    have : ∀ r, r < 5 → ∀ h, h < 7 → r = 0 ∨ 1 ≤ ways r h := by decide
    have := this R (by omega) H (by omega)
    omega
theorem ways_max {R H : Nat} (hR : R ≤ 4) (hH : H ≤ 6) : ways R H ≤ 60480 := by
  have : ∀ r, r < 5 → ∀ h, h < 7 → ways r h ≤ 60480 := by decide
  exact this R (by omega) H (by omega)
