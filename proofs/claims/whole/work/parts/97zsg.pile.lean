/-! THE PILE OF OPERATORS STAYS IN BOUNDS -/
def tR6 (st : Pk) : Nat := if topR st ≤ 6 then topR st else 0
def PV : Pk → Prop
  | [] => True
  | t :: st => (t :: st).length ≤ 1 + 7 * wth (t :: st) + tR6 (t :: st) ∧ PV st
def BT : Pk → Prop
  | [] => True
  | [t] => t.1 = 8
  | t :: u :: r => t.1 ≤ 7 ∧ BT (u :: r)
theorem BT.tl {t : Nat × Nat} {st : Pk} (h : BT (t :: st)) : BT st := by
  cases st with
  | nil => trivial
  | cons u r => exact h.2
theorem BT.push {t : Nat × Nat} {st : Pk} (h : BT st) (hn : st ≠ []) (ht : t.1 ≤ 7) : BT (t :: st) := by
  cases st with
  | nil => exact absurd rfl hn
  | cons u r => exact ⟨ht, h⟩
theorem BT.low {t : Nat × Nat} {st : Pk} (h : BT (t :: st)) (ht : t.1 ≤ 7) : st ≠ [] := by
  intro e
  rw [e] at h
  have h : t.1 = 8 := h
  omega
theorem BT.top {t : Nat × Nat} {st : Pk} (h : BT (t :: st)) (ht : 7 < t.1) : st = [] := by
  cases st with
  | nil => rfl
  | cons u r => have := h.1; omega
theorem PV.len {st : Pk} (h : PV st) : st.length ≤ 1 + 7 * wth st + tR6 st := by
  cases st with
  | nil => show 0 ≤ _; omega
  | cons t r => exact h.1
theorem tR6_le (st : Pk) : tR6 st ≤ 6 := by unfold tR6; split <;> omega
def XI (bs : List Int32) (x : Xs) : Prop := PV x.2.1 ∧ BT x.2.1 ∧ wth x.2.1 ≤ 7 ∧ x.2.2.2.2 ≤ 40 ∧ x.2.2.2.1.length + x.2.1.length ≤ 9 * x.2.2.2.2 + 1 + (if x.1 = true then 1 + wth x.2.1 else 0) ∧ x.2.2.1.1 ≤ bs.length
def mu (bs : List Int32) (x : Xs) : Nat := 2 * (bs.length - x.2.2.1.1) + x.2.1.length
section
variable {bs : List Int32} {H : List (List Nat)}
theorem wth_le (st : Pk) (t : Nat × Nat) : wth st ≤ wth (t :: st) := by rw [wth]; omega
theorem pops_ok (r : Nat) : ∀ (st : Pk) (s : Es), PV st → BT st → st ≠ [] → PV (pops r st s).1 ∧ BT (pops r st s).1 ∧ (pops r st s).1 ≠ [] ∧ wth (pops r st s).1 ≤ wth st ∧ (pops r st s).2.2.2 = s.2.2 ∧ (pops r st s).2.1 = s.1 ∧ (pops r st s).2.2.1.length + (pops r st s).1.length = s.2.1.length + st.length ∧ (topR (pops r st s).1 < r ∨ 7 ≤ topR (pops r st s).1) ∧ (pops r st s).1.length ≤ st.length
  | [], s, _, _, hn => absurd rfl hn
  | t :: st, s, hP, hB, _ => by
    rw [pops]
    by_cases c : t.1 ≤ 6 ∧ r ≤ t.1
    · rw [if_pos c]
      obtain ⟨h1, h2, h3, h4, h5, h6, h7, h8, h9⟩ := pops_ok r st (ae t.2 s) hP.2 hB.tl (hB.low (by omega))
      have e : (ae t.2 s).2.1.length = s.2.1.length + 1 := by show (s.2.1 ++ [(t.2, 0)]).length = _; rw [List.length_append]; rfl
      refine ⟨h1, h2, h3, Nat.le_trans h4 (wth_le st t), h5, h6, ?_, h8, by rw [List.length_cons]; omega⟩
      rw [h7, e, List.length_cons]; omega
    · rw [if_neg c]
      exact ⟨hP, hB, by simp, Nat.le_refl _, rfl, rfl, rfl, by show t.1 < r ∨ 7 ≤ t.1; omega, Nat.le_refl _⟩
theorem qn_gt {i : Nat} (h : i ≤ bs.length) (hk : qk bs i ≠ 0) : i < qn bs i ∧ qn bs i ≤ bs.length := ⟨Nat.lt_of_le_of_lt (qp_le h).1 (qn_lt hk), (qn_le h).2⟩
theorem qx_k {i : Nat} (h : 0 ≤ qx bs i) : qk bs i ≠ 0 := by
  unfold qx at h
  split at h <;> omega
theorem qs_k {i c : Nat} (h : qs bs i = c) : qk bs i ≠ 0 := by
  unfold qs at h
  split at h <;> omega
theorem rk_k {i : Nat} (h : 0 < rk bs i) : qk bs i ≠ 0 := by
  unfold rk at h
  split at h
  · exact qx_k (by omega)
  split at h
  · exact qx_k (by omega)
  split at h
  · rename_i q
    unfold oC at q
    split at q
    · rename_i z
      rcases z with z | z | z
      · exact qs_k (c := 60) z
      · exact qs_k (c := 62) z
      · exact qs_k (c := 61) z
    · cases q
  split at h
  · rename_i q
    unfold oS at q
    split at q
    · rename_i z
      rcases z with z | z
      · exact qs_k (c := 43) z
      · exact qs_k (c := 45) z
    · cases q
  split at h
  · rename_i q
    unfold oT at q
    split at q
    · rename_i z
      rcases z with z | z
      · exact qs_k (c := 42) z
      · exact qs_k (c := 47) z
    · cases q
  · omega
theorem stU_ok {st : Pk} {s : Es} (hn : st ≠ []) (hX : XI bs (true, st, s)) (hg : (stU bs H st s).2.2.1.2.1 = 0) : XI bs (stU bs H st s) ∧ mu bs (stU bs H st s) < mu bs (true, st, s) := by
  obtain ⟨hP, hB, hw, hu, hc, hl⟩ := hX
  have hP : PV st := hP
  have hB : BT st := hB
  have hw : wth st ≤ 7 := hw
  have hu : s.2.2 ≤ 40 := hu
  have hc : s.2.1.length + st.length ≤ 9 * s.2.2 + 1 + (1 + wth st) := hc
  have hl : s.1.1 ≤ bs.length := hl
  have hL := hP.len
  have h6 := tR6_le st
  have est : stU bs H st s = if (¬ ((topR st ≤ 3 ∨ 7 ≤ topR st) ∧ qx bs s.1.1 = 12) ∧ ((¬ (qx bs s.1.1 = 17 ∨ isGv (qx bs s.1.1) = true) ∧ qk bs s.1.1 ≠ 4 ∧ qs bs s.1.1 ≠ 40) ∨ s.2.2 = 40)) ∨ ((((topR st ≤ 3 ∨ 7 ≤ topR st) ∧ qx bs s.1.1 = 12) ∨ qs bs s.1.1 = 40) ∧ wth st = 7) then (true, st, eRfu bs s)
    else if ((topR st ≤ 3 ∨ 7 ≤ topR st) ∧ qx bs s.1.1 = 12) then (true, (3, 12) :: st, eAdv bs s)
    else if qs bs s.1.1 = 40 then (true, (7, 12) :: st, eAdv bs (s.1, s.2.1, s.2.2 + 1))
    else if qx bs s.1.1 = 17 then (false, st, au 17 (tTold bs H (adv bs s.1)).1 ((tTold bs H (adv bs s.1)).2, s.2))
    else if isGv (qx bs s.1.1) = true then (false, st, eAdv bs (au (qx bs s.1.1).toNat 0 s))
    else (false, st, eAdv bs (au 48 (qv bs s.1.1) s)) := rfl
  rw [est] at hg ⊢
  split at hg
  · exact absurd hg (rfu_bad s.1)
  rename_i q
  rw [if_neg q]
  have q1 : ¬ ((¬ ((topR st ≤ 3 ∨ 7 ≤ topR st) ∧ qx bs s.1.1 = 12) ∧ ((¬ (qx bs s.1.1 = 17 ∨ isGv (qx bs s.1.1) = true) ∧ qk bs s.1.1 ≠ 4 ∧ qs bs s.1.1 ≠ 40) ∨ s.2.2 = 40))) := fun z => q (Or.inl z)
  have q2 : ¬ ((((topR st ≤ 3 ∨ 7 ≤ topR st) ∧ qx bs s.1.1 = 12) ∨ qs bs s.1.1 = 40) ∧ wth st = 7) := fun z => q (Or.inr z)
  have un : ∀ s' : Es, ¬ ((topR st ≤ 3 ∨ 7 ≤ topR st) ∧ qx bs s.1.1 = 12) → s.1.1 < s'.1.1 → s'.1.1 ≤ bs.length → s'.2.2 = s.2.2 + 1 → s'.2.1.length = s.2.1.length + 1 → XI bs (false, st, s') ∧ mu bs (false, st, s') < mu bs (true, st, s) := fun s' h0 h1 h2 h3 h4 => by
    have h40 : s.2.2 ≠ 40 := fun z => q1 ⟨h0, Or.inr z⟩
    refine ⟨⟨hP, hB, hw, ?_, ?_, h2⟩, ?_⟩
    · show s'.2.2 ≤ 40; omega
    · show s'.2.1.length + st.length ≤ 9 * s'.2.2 + 1 + 0; omega
    · show 2 * (bs.length - s'.1.1) + st.length < 2 * (bs.length - s.1.1) + st.length; omega
  by_cases c1 : (topR st ≤ 3 ∨ 7 ≤ topR st) ∧ qx bs s.1.1 = 12
  · rw [if_pos c1]
    have ha := qn_gt hl (qx_k (by rw [c1.2]; decide))
    have hw7 : wth st ≠ 7 := fun z => q2 ⟨Or.inl c1, z⟩
    have ew : wth ((3, 12) :: st) = 1 + wth st := by rw [wth, if_pos (Or.inl rfl)]
    have et : tR6 ((3, 12) :: st) = 3 := rfl
    refine ⟨⟨⟨?_, hP⟩, hB.push hn (by decide), ?_, hu, ?_, ha.2⟩, ?_⟩
    · rw [ew, et, List.length_cons]; omega
    · show wth ((3, 12) :: st) ≤ 7; rw [ew]; omega
    · show s.2.1.length + ((3, 12) :: st).length ≤ 9 * s.2.2 + 1 + (1 + wth ((3, 12) :: st))
      rw [ew, List.length_cons]; omega
    · show 2 * (bs.length - qn bs s.1.1) + ((3, 12) :: st).length < 2 * (bs.length - s.1.1) + st.length
      rw [List.length_cons]; omega
  rw [if_neg c1] at hg ⊢
  by_cases c2 : qs bs s.1.1 = 40
  · rw [if_pos c2]
    have ha := qn_gt hl (qs_k (c := 40) c2)
    have hw7 : wth st ≠ 7 := fun z => q2 ⟨Or.inr c2, z⟩
    have h40 : s.2.2 ≠ 40 := fun z => q1 ⟨c1, Or.inr z⟩
    have ew : wth ((7, 12) :: st) = 1 + wth st := by rw [wth, if_pos (Or.inr rfl)]
    have et : tR6 ((7, 12) :: st) = 0 := rfl
    refine ⟨⟨⟨?_, hP⟩, hB.push hn (by decide), ?_, ?_, ?_, ha.2⟩, ?_⟩
    · rw [ew, et, List.length_cons]; omega
    · show wth ((7, 12) :: st) ≤ 7; rw [ew]; omega
    · show s.2.2 + 1 ≤ 40; omega
    · show s.2.1.length + ((7, 12) :: st).length ≤ 9 * (s.2.2 + 1) + 1 + (1 + wth ((7, 12) :: st))
      rw [ew, List.length_cons]; omega
    · show 2 * (bs.length - qn bs s.1.1) + ((7, 12) :: st).length < 2 * (bs.length - s.1.1) + st.length
      rw [List.length_cons]; omega
  rw [if_neg c2] at hg ⊢
  have la : ∀ a b : Nat, (s.2.1 ++ [(a, b)]).length = s.2.1.length + 1 := fun a b => by rw [List.length_append]; rfl
  by_cases c3 : qx bs s.1.1 = 17
  · rw [if_pos c3] at hg ⊢
    have ha := qn_gt hl (qx_k (by rw [c3]; decide))
    have hb := tTold_good (bs := bs) (H := H) (s := adv bs s.1) hg
    have hd := qn_gt (bs := bs) (i := qn bs s.1.1) ha.2 (by have : qk bs (qn bs s.1.1) = 2 := hb.2.1; omega)
    refine un _ c1 ?_ ?_ rfl (la _ _)
    · show s.1.1 < (tTold bs H (adv bs s.1)).2.1
      rw [hb.2.2.2.1]
      show s.1.1 < qn bs (qn bs s.1.1); omega
    · show (tTold bs H (adv bs s.1)).2.1 ≤ bs.length
      rw [hb.2.2.2.1]; exact hd.2
  rw [if_neg c3] at hg ⊢
  by_cases c4 : isGv (qx bs s.1.1) = true
  · rw [if_pos c4]
    have c6 : 6 ≤ qx bs s.1.1 := by unfold isGv at c4; rw [decide_eq_true_eq] at c4; omega
    have ha := qn_gt hl (qx_k (by omega))
    exact un _ c1 ha.1 ha.2 rfl (la _ _)
  rw [if_neg c4]
  have c5 : qk bs s.1.1 = 4 := by
    apply Classical.byContradiction
    intro z
    exact q1 ⟨c1, Or.inl ⟨fun y => y.elim c3 c4, z, c2⟩⟩
  have ha := qn_gt hl (by omega)
  exact un _ c1 ha.1 ha.2 rfl (la _ _)
theorem stB_ok {st : Pk} {s : Es} (hn : st ≠ []) (hX : XI bs (false, st, s)) (hg : (stB bs st s).2.2.1.2.1 = 0) : XI bs (stB bs st s) ∧ mu bs (stB bs st s) < mu bs (false, st, s) := by
  obtain ⟨hP, hB, hw, hu, hc, hl⟩ := hX
  have hP : PV st := hP
  have hB : BT st := hB
  have hw : wth st ≤ 7 := hw
  have hu : s.2.2 ≤ 40 := hu
  have hc : s.2.1.length + st.length ≤ 9 * s.2.2 + 1 + 0 := hc
  have hl : s.1.1 ≤ bs.length := hl
  unfold stB at hg ⊢
  by_cases c0 : rk bs s.1.1 = 4 ∧ isCmp st = true
  · rw [if_pos c0] at hg; exact absurd hg (rfu_bad s.1)
  rw [if_neg c0] at hg ⊢
  by_cases c1 : 0 < rk bs s.1.1
  · rw [if_pos c1]
    obtain ⟨h1, h2, h3, h4, h5, h6, h7, h8, h9⟩ := pops_ok (rk bs s.1.1) st s hP hB hn
    have hr := (rk_all bs s.1.1).2.2.2.2.2
    have ha := qn_gt hl (rk_k c1)
    have hL := h1.len
    generalize pops (rk bs s.1.1) st s = p at *
    have ew : wth ((rk bs s.1.1, opc bs s.1.1) :: p.1) = wth p.1 := by
      rw [wth, if_neg (by show ¬ (rk bs s.1.1 = 3 ∨ rk bs s.1.1 = 7); omega), Nat.zero_add]
    have et : tR6 ((rk bs s.1.1, opc bs s.1.1) :: p.1) = rk bs s.1.1 := by
      unfold tR6
      rw [if_pos (by show rk bs s.1.1 ≤ 6; omega)]; rfl
    have e6 : tR6 p.1 < rk bs s.1.1 := by
      unfold tR6
      split <;> omega
    refine ⟨⟨⟨?_, h1⟩, h2.push h3 (by show rk bs s.1.1 ≤ 7; omega), ?_, ?_, ?_, ?_⟩, ?_⟩
    · rw [ew, et, List.length_cons]; omega
    · show wth ((rk bs s.1.1, opc bs s.1.1) :: p.1) ≤ 7; rw [ew]; omega
    · show p.2.2.2 ≤ 40; omega
    · show p.2.2.1.length + ((rk bs s.1.1, opc bs s.1.1) :: p.1).length ≤ 9 * p.2.2.2 + 1 + (1 + wth ((rk bs s.1.1, opc bs s.1.1) :: p.1))
      rw [ew, List.length_cons]; omega
    · show qn bs p.2.1.1 ≤ bs.length
      rw [h6]; exact ha.2
    · show 2 * (bs.length - qn bs p.2.1.1) + ((rk bs s.1.1, opc bs s.1.1) :: p.1).length < 2 * (bs.length - s.1.1) + st.length
      rw [h6, List.length_cons]; omega
  · rw [if_neg c1] at hg ⊢
    obtain ⟨h1, h2, h3, h4, h5, h6, h7, h8, h9⟩ := pops_ok 0 st s hP hB hn
    generalize pops 0 st s = p at *
    obtain ⟨p1, p2⟩ := p
    cases p1 with
    | nil => exact absurd rfl h3
    | cons t st2 =>
      have h7 : p2.2.1.length + (st2.length + 1) = s.2.1.length + st.length := h7
      have h4 : wth (t :: st2) ≤ wth st := h4
      have hw2 := wth_le st2 t
      have h5 : p2.2.2 = s.2.2 := h5
      have h6 : p2.1 = s.1 := h6
      have h9 : st2.length + 1 ≤ st.length := h9
      simp only at hg ⊢
      by_cases c2 : t.1 = 7
      · rw [if_pos c2] at hg ⊢
        have hs := tSign_good (bs := bs) (c := 41) (s := p2.1) hg
        have hk := qs_k (bs := bs) (i := p2.1.1) (c := 41) hs.2.1
        have ha := qn_gt (bs := bs) (i := p2.1.1) (by rw [h6]; exact hl) hk
        refine ⟨⟨h1.2, h2.tl, ?_, ?_, ?_, ?_⟩, ?_⟩
        · show wth st2 ≤ 7; omega
        · show p2.2.2 ≤ 40; omega
        · show p2.2.1.length + st2.length ≤ 9 * p2.2.2 + 1 + 0; omega
        · show (tSign bs 41 p2.1).1 ≤ bs.length
          rw [hs.2.2]; exact ha.2
        · show 2 * (bs.length - (tSign bs 41 p2.1).1) + st2.length < 2 * (bs.length - s.1.1) + st.length
          rw [hs.2.2]
          show 2 * (bs.length - qn bs p2.1.1) + st2.length < 2 * (bs.length - s.1.1) + st.length
          rw [h6] at ha ⊢; omega
      · rw [if_neg c2] at hg ⊢
        refine ⟨⟨h1.2, h2.tl, ?_, ?_, ?_, ?_⟩, ?_⟩
        · show wth st2 ≤ 7; omega
        · show p2.2.2 ≤ 40; omega
        · show p2.2.1.length + st2.length ≤ 9 * p2.2.2 + 1 + 0; omega
        · show p2.1.1 ≤ bs.length; rw [h6]; exact hl
        · show 2 * (bs.length - p2.1.1) + st2.length < 2 * (bs.length - s.1.1) + st.length
          rw [h6]
          omega
end
