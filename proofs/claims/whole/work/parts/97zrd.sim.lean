/-! DESCENT AND PILE AGREE -/
section
variable {bs : List Int32} {H : List (List Nat)}
def topO (st : Pk) : Prop := topR st ≤ 3 ∨ 7 ≤ topR st
/-- a unit's own claim: at any pile, but where a one begins no not stands here -/
def SmU (bs : List Int32) (H : List (List Nat)) (d : Nat) (u : Es → Es) : Prop := ∀ st s, st ≠ [] → wth st = d → s.1.2.1 = 0 → s.2.2 ≤ 40 → (qx bs s.1.1 = 12 → ¬ topO st) → SmP bs H (fun k => k ≤ 6) False (true, st, s) st (u s)
theorem wth_op {R c : Nat} {st : Pk} (h : R ≠ 3 ∧ R ≠ 7) : wth ((R, c) :: st) = wth st := by
  rw [wth, if_neg (by omega)]; omega
theorem Un_T {u : Es → Es} (hU : Un u) : Un (pT bs u) := by
  intro s hg hu h
  unfold pT at h ⊢
  by_cases g : (u s).1.2.1 = 0
  · have h1 := hU s hg hu g
    have h2 := lps_un (o := oT bs) hU 40 (u s) g h1.2 h
    exact ⟨by omega, h2.2⟩
  · rw [lps_bad g] at h; exact absurd h g
theorem Un_S {u : Es → Es} (hU : Un u) : Un (pS bs u) := by
  intro s hg hu h
  unfold pS at h ⊢
  by_cases g : (pT bs u s).1.2.1 = 0
  · have h1 := Un_T hU s hg hu g
    have h2 := lps_un (o := oS bs) (Un_T hU) 40 (pT bs u s) g h1.2 h
    exact ⟨by omega, h2.2⟩
  · rw [lps_bad g] at h; exact absurd h g
theorem Un_B {u : Es → Es} (hU : Un u) : Un (pB bs u) := by
  intro s hg hu h
  unfold pB at h ⊢
  by_cases g : (u s).1.2.1 = 0
  · have h1 := hU s hg hu g
    have h2 := lps_un (o := oA bs) hU 40 (u s) g h1.2 h
    exact ⟨by omega, h2.2⟩
  · rw [lps_bad g] at h; exact absurd h g
theorem Un_E {u : Es → Es} (hU : Un u) : Un (pE bs u) := by
  intro s hg hu h
  unfold pE at h ⊢
  by_cases g : (pB bs u s).1.2.1 = 0
  · have h1 := Un_B hU s hg hu g
    have h2 := lps_un (o := oO bs) (Un_B hU) 40 (pB bs u s) g h1.2 h
    exact ⟨by omega, h2.2⟩
  · rw [lps_bad g] at h; exact absurd h g
theorem Un_C {u : Es → Es} (hU : Un u) : Un (pC bs u) := by
  intro s hg hu h
  unfold pC at h ⊢
  by_cases g : (pS bs u s).1.2.1 = 0
  · have h1 := Un_S hU s hg hu g
    rw [if_pos g] at h ⊢
    cases e : oC bs (pS bs u s).1.1 with
    | none => rw [e] at h; exact h1
    | some c =>
      rw [e] at h
      have h2 := Un_S hU (eAdv bs (pS bs u s)) g h1.2 h
      have h3 : (pS bs u s).2.2 < (pS bs u (eAdv bs (pS bs u s))).2.2 := h2.1
      exact ⟨by show s.2.2 < (pS bs u (eAdv bs (pS bs u s))).2.2; omega, h2.2⟩
  · rw [if_neg g] at h; exact absurd h g
theorem SmP_bad {P Q : Nat → Prop} {b c : Prop} {x : Xs} {st st' : Pk} {s : Es} (h : SmP bs H P b x st s) (g : s.1.2.1 ≠ 0) : SmP bs H Q c x st' s := ⟨h.1, fun q => absurd q g⟩
theorem SmP_mono {P Q : Nat → Prop} {b : Prop} {x : Xs} {st : Pk} {s : Es} (h : SmP bs H P b x st s) (k : ∀ i, P i → Q i) : SmP bs H Q b x st s := ⟨h.1, fun g => by
  rcases h.2 g with h | h
  · exact Or.inl ⟨k _ h.1, h.2⟩
  · exact Or.inr h⟩
theorem sim_T {d : Nat} {u : Es → Es} (hS : SmU bs H d u) (hU : Un u) {st : Pk} {s : Es} (hst : st ≠ []) (hw : wth st = d) (hT : topR st < 6 ∨ 7 ≤ topR st) (hg : s.1.2.1 = 0) (hu : s.2.2 ≤ 40) (hn : qx bs s.1.1 = 12 → ¬ topO st) :
    SmP bs H (fun k => k ≤ 6 ∧ k ≠ 6) False (true, st, s) st (pT bs u s) := by
  have h1 := hS st s hst hw hg hu hn
  unfold pT
  by_cases g : (u s).1.2.1 = 0
  · have h2 := hU s hg hu g
    exact loop_ok (R := 6) (fun i => (rk_all bs i).2.2.2.2.1) hst hT (by decide) (fun q => q.elim) (fun k hk => hk) (fun c s' g' u' => hS ((6, c) :: st) s' (by simp) (by rw [wth_op (by decide)]; exact hw) g' u' (fun _ => by unfold topO topR; show ¬ (6 ≤ 3 ∨ 7 ≤ 6); decide)) hU _ 40 _ g h2.2 (by omega) h1
  · rw [lps_bad g]; exact SmP_bad h1 g
theorem sim_S {d : Nat} {u : Es → Es} (hS : SmU bs H d u) (hU : Un u) {st : Pk} {s : Es} (hst : st ≠ []) (hw : wth st = d) (hT : topR st < 5 ∨ 7 ≤ topR st) (hg : s.1.2.1 = 0) (hu : s.2.2 ≤ 40) (hn : qx bs s.1.1 = 12 → ¬ topO st) :
    SmP bs H (fun k => (k ≤ 6 ∧ k ≠ 6) ∧ k ≠ 5) False (true, st, s) st (pS bs u s) := by
  have h1 := sim_T hS hU hst hw (by omega) hg hu hn
  unfold pS
  by_cases g : (pT bs u s).1.2.1 = 0
  · have h2 := Un_T hU s hg hu g
    exact loop_ok (R := 5) (fun i => (rk_all bs i).2.2.2.1) hst hT (by decide) (fun q => q.elim) (fun k hk => by omega) (fun c s' g' u' => sim_T hS hU (by simp) (by rw [wth_op (by decide)]; exact hw) (by show 5 < 6 ∨ 7 ≤ 5; decide) g' u' (fun _ => by unfold topO topR; show ¬ (5 ≤ 3 ∨ 7 ≤ 5); decide)) (Un_T hU) _ 40 _ g h2.2 (by omega) h1
  · rw [lps_bad g]; exact SmP_bad h1 g
theorem isCmp_top {st : Pk} (h : topO st) : isCmp st = false := by
  cases st with
  | nil => rfl
  | cons t st =>
    unfold topO topR at h
    simp only at h
    rw [isCmp, if_neg (by omega), decide_eq_false_iff_not]; omega
theorem sim_C {d : Nat} {u : Es → Es} (hS : SmU bs H d u) (hU : Un u) {st : Pk} {s : Es} (hst : st ≠ []) (hw : wth st = d) (hT : topO st) (hg : s.1.2.1 = 0) (hu : s.2.2 ≤ 40) (hn : qx bs s.1.1 ≠ 12) :
    SmP bs H (fun k => k ≤ 2) True (true, st, s) st (pC bs u s) := by
  have hT' : topR st < 4 ∨ 7 ≤ topR st := by unfold topO at hT; omega
  have h1 := sim_S hS hU hst hw (by omega) hg hu (fun q => absurd q hn)
  unfold pC
  by_cases g : (pS bs u s).1.2.1 = 0
  · have h2 := Un_S hU s hg hu g
    rw [if_pos g, (rk_all bs _).2.2.1]
    generalize pS bs u s = s1 at *
    have h3 : ∀ r, Rn bs H (false, st, s1) r → ∃ r', Rn bs H (true, st, s) r' ∧ eqv r' r := by
      rcases h1.2 g with h | h
      · exact h.2
      · exact h.1.elim
    have hk : rk bs s1.1.1 ≤ 4 ∧ rk bs s1.1.1 ≠ 3 := by
      rcases h1.2 g with h | h
      · have h5 := h.1
        have h6 := (rk_all bs s1.1.1).2.2.2.2.2.2
        simp only at h5
        omega
      · exact h.1.elim
    by_cases c : rk bs s1.1.1 = 4
    · rw [if_pos c]
      show SmP bs H (fun k => k ≤ 2) True (true, st, s) st (ae (opc bs s1.1.1) (pS bs u (eAdv bs s1)))
      have e1 : stp bs H (false, st, s1) = (true, (4, opc bs s1.1.1) :: st, eAdv bs s1) := by
        show stB bs st s1 = _
        unfold stB
        rw [isCmp_top hT, if_neg (by intro q; cases q.2), c, if_pos (by omega), pops_keep hT']
      have hx3 : ∀ r, Rn bs H (true, (4, opc bs s1.1.1) :: st, eAdv bs s1) r → ∃ r', Rn bs H (true, st, s) r' ∧ eqv r' r := fun r hr => h3 r (Rn_step (x := (false, st, s1)) g hst (by rw [e1]; exact hr))
      have h5 := sim_S hS hU (st := (4, opc bs s1.1.1) :: st) (s := eAdv bs s1) (by simp) (by rw [wth_op (by decide)]; exact hw) (by show 4 < 5 ∨ 7 ≤ 4; decide) g h2.2 (fun _ => by unfold topO topR; show ¬ (4 ≤ 3 ∨ 7 ≤ 4); decide)
      generalize pS bs u (eAdv bs s1) = s2 at *
      refine ⟨fun q => ?_, fun q => ?_⟩
      · obtain ⟨r, q1, q2⟩ := h5.1 q
        obtain ⟨r3, q5, q6⟩ := hx3 r q1
        exact ⟨r3, q5, q6.1.trans q2⟩
      · have q : s2.1.2.1 = 0 := q
        rcases h5.2 q with h | h
        · have h6 := (rk_all bs s2.1.1).2.2.2.2.2.2
          have h7 := h.1
          simp only at h7
          by_cases c2 : rk bs s2.1.1 = 4
          · right
            refine ⟨trivial, c2, ?_⟩
            have e2 : stp bs H (false, (4, opc bs s1.1.1) :: st, s2) = (true, (4, opc bs s1.1.1) :: st, eRfu bs s2) := by
              show stB bs _ s2 = _
              unfold stB
              rw [if_pos ⟨c2, by rw [isCmp, if_neg (by show ¬ (4 = 5 ∨ 4 = 6); decide)]; rfl⟩]
            have e3 : Rn bs H (false, (4, opc bs s1.1.1) :: st, s2) (eRfu bs s2) := Rn_step (x := (false, (4, opc bs s1.1.1) :: st, s2)) q (by simp) (by rw [e2]; exact Rn_stop (by intro z; exact rfu_bad s2.1 z.1))
            obtain ⟨r2, q3, q4⟩ := h.2 _ e3
            obtain ⟨r3, q5, q6⟩ := hx3 r2 q3
            exact ⟨r3, q5, (q6.trans q4).1⟩
          · left
            refine ⟨by show rk bs s2.1.1 ≤ 2; omega, fun r hr => ?_⟩
            obtain ⟨r1, q1, q2⟩ := pop_ok (t := (4, opc bs s1.1.1)) (by show 4 ≤ 6; decide) (by show rk bs s2.1.1 ≤ 4; omega) (by intro z; exact c2 z.1) q hst hr
            obtain ⟨r2, q3, q4⟩ := h.2 r1 q1
            obtain ⟨r3, q5, q6⟩ := hx3 r2 q3
            exact ⟨r3, q5, q6.trans (q4.trans q2)⟩
        · exact h.1.elim
    · rw [if_neg c]
      exact ⟨fun q => absurd g q, fun _ => Or.inl ⟨by show rk bs s1.1.1 ≤ 2; omega, h3⟩⟩
  · rw [if_neg g]; exact SmP_bad h1 g
def SmO (bs : List Int32) (H : List (List Nat)) (d : Nat) (o : Es → Es) : Prop := ∀ st s, st ≠ [] → wth st = d → topO st → s.1.2.1 = 0 → s.2.2 ≤ 40 → SmP bs H (fun k => k ≤ 2) True (true, st, s) st (o s)
theorem sim_B {d : Nat} {o : Es → Es} (hS : SmO bs H d o) (hU : Un o) {st : Pk} {s : Es} (hst : st ≠ []) (hw : wth st = d) (hT : topR st < 2 ∨ 7 ≤ topR st) (hg : s.1.2.1 = 0) (hu : s.2.2 ≤ 40) :
    SmP bs H (fun k => k ≤ 2 ∧ k ≠ 2) True (true, st, s) st (pB bs o s) := by
  have h1 := hS st s hst hw (by unfold topO; omega) hg hu
  unfold pB
  by_cases g : (o s).1.2.1 = 0
  · have h2 := hU s hg hu g
    exact loop_ok (R := 2) (fun i => (rk_all bs i).1) hst hT (by decide) (fun _ => by decide) (fun k hk => hk) (fun c s' g' u' => hS ((2, c) :: st) s' (by simp) (by rw [wth_op (by decide)]; exact hw) (by unfold topO topR; show 2 ≤ 3 ∨ 7 ≤ 2; decide) g' u') hU _ 40 _ g h2.2 (by omega) h1
  · rw [lps_bad g]; exact SmP_bad h1 g
theorem sim_E {d : Nat} {o : Es → Es} (hS : SmO bs H d o) (hU : Un o) {st : Pk} {s : Es} (hst : st ≠ []) (hw : wth st = d) (hT : 7 ≤ topR st) (hg : s.1.2.1 = 0) (hu : s.2.2 ≤ 40) :
    SmP bs H (fun k => (k ≤ 2 ∧ k ≠ 2) ∧ k ≠ 1) True (true, st, s) st (pE bs o s) := by
  have h1 := sim_B hS hU hst hw (by omega) hg hu
  unfold pE
  by_cases g : (pB bs o s).1.2.1 = 0
  · have h2 := Un_B hU s hg hu g
    exact loop_ok (R := 1) (fun i => (rk_all bs i).2.1) hst (by omega) (by decide) (fun _ => by decide) (fun k hk => by omega) (fun c s' g' u' => sim_B hS hU (by simp) (by rw [wth_op (by decide)]; exact hw) (by show 1 < 2 ∨ 7 ≤ 1; decide) g' u') (Un_B hU) _ 40 _ g h2.2 (by omega) h1
  · rw [lps_bad g]; exact SmP_bad h1 g
theorem stU_12 {st : Pk} {s : Es} (h : qx bs s.1.1 = 12) (hT : topO st) (hw : wth st ≠ 7) : stU bs H st s = (true, (3, 12) :: st, eAdv bs s) := by
  unfold stU
  have : ¬ qs bs s.1.1 = 40 := by have := qx_qs bs s.1.1; omega
  simp only [h, hw, this, and_false, or_false, and_true, show (topR st ≤ 3 ∨ 7 ≤ topR st) = True from propext ⟨fun _ => trivial, fun _ => hT⟩, not_true, false_and, if_false, if_true]
theorem stU_12d {st : Pk} {s : Es} (h : qx bs s.1.1 = 12) (hT : topO st) (hw : wth st = 7) : stU bs H st s = (true, st, eRfu bs s) := by
  unfold stU
  simp only [h, hw, and_true, show (topR st ≤ 3 ∨ 7 ≤ topR st) = True from propext ⟨fun _ => trivial, fun _ => hT⟩, true_or, or_true, if_true]
/-- one step of the pile at a unit, and the descent's unit -/
theorem sim_U {d : Nat} {r : Option (Es → Es)} (hd : d ≤ 7) (hr : r = none ↔ d = 7) (hE : ∀ e, r = some e → ∀ st s, wth st = d + 1 → 7 ≤ topR st → st ≠ [] → s.1.2.1 = 0 → s.2.2 ≤ 40 → SmP bs H (fun k => (k ≤ 2 ∧ k ≠ 2) ∧ k ≠ 1) True (true, st, s) st (e s)) :
    SmU bs H d (pU bs H r) := by
  intro st s hst hw hg hu hn
  have hbad : ∀ s', stU bs H st s = (true, st, s') → s'.1.2.1 ≠ 0 → s' = pU bs H r s → SmP bs H (fun k => k ≤ 6) False (true, st, s) st (pU bs H r s) := by
    intro s' e1 e2 e3
    rw [← e3]
    exact ⟨fun _ => ⟨s', Rn_step (x := (true, st, s)) hg hst (by show Rn bs H (stU bs H st s) s'; rw [e1]; exact Rn_stop (by intro q; exact e2 q.1)), rfl⟩, fun q => absurd q e2⟩
  have hgood : ∀ s', stU bs H st s = (false, st, s') → s' = pU bs H r s → SmP bs H (fun k => k ≤ 6) False (true, st, s) st (pU bs H r s) := by
    intro s' e1 e3
    rw [← e3]
    refine ⟨fun q => ⟨s', Rn_step (x := (true, st, s)) hg hst (by show Rn bs H (stU bs H st s) s'; rw [e1]; exact Rn_stop (by intro z; exact q z.1)), rfl⟩, fun _ => Or.inl ⟨(rk_all bs _).2.2.2.2.2.1, fun r hr => ⟨r, Rn_step (x := (true, st, s)) hg hst (by show Rn bs H (stU bs H st s) r; rw [e1]; exact hr), eqv.refl r⟩⟩⟩
  have hnt : ¬ ((topR st ≤ 3 ∨ 7 ≤ topR st) ∧ qx bs s.1.1 = 12) := fun q => hn q.2 q.1
  have h0 : ¬ (s.1.2.1 ≠ 0 ∨ 40 ≤ s.2.2) ∨ s.2.2 = 40 := by omega
  have hq := qx_qs bs s.1.1
  by_cases c1 : s.2.2 = 40
  · refine hbad (eRfu bs s) ?_ (rfu_bad s.1) ?_
    · unfold stU; rw [if_pos (Or.inl ⟨hnt, Or.inr c1⟩)]
    · unfold pU; rw [if_pos (by omega)]
  have c0 : ¬ (s.1.2.1 ≠ 0 ∨ 40 ≤ s.2.2) := by omega
  have hno : ¬ (¬ (qx bs s.1.1 = 17 ∨ isGv (qx bs s.1.1) = true) ∧ qk bs s.1.1 ≠ 4 ∧ qs bs s.1.1 ≠ 40) → (qs bs s.1.1 = 40 → d ≠ 7) → ¬ ((¬ ((topR st ≤ 3 ∨ 7 ≤ topR st) ∧ qx bs s.1.1 = 12) ∧ ((¬ (qx bs s.1.1 = 17 ∨ isGv (qx bs s.1.1) = true) ∧ qk bs s.1.1 ≠ 4 ∧ qs bs s.1.1 ≠ 40) ∨ s.2.2 = 40)) ∨ ((((topR st ≤ 3 ∨ 7 ≤ topR st) ∧ qx bs s.1.1 = 12) ∨ qs bs s.1.1 = 40) ∧ wth st = 7)) := by
    intro a b h
    rcases h with ⟨-, h | h⟩ | ⟨h | h, k⟩
    · exact a h
    · exact c1 h
    · exact hnt h
    · exact b h (by omega)
  by_cases c2 : qk bs s.1.1 = 4
  · have q1 : qx bs s.1.1 = -1 := by unfold qx; rw [if_neg (by omega)]
    have q2 : qs bs s.1.1 = -1 := by unfold qs; rw [if_neg (by omega)]
    refine hgood (eAdv bs (au 48 (qv bs s.1.1) s)) ?_ ?_
    · unfold stU
      rw [if_neg (hno (fun h => h.2.1 c2) (fun h => by omega)), if_neg hnt, if_neg (by omega), if_neg (by omega), if_neg (by rw [q1]; decide)]
    · unfold pU; rw [if_neg c0, if_pos c2]
  by_cases c3 : qx bs s.1.1 = 17
  · refine hgood (au 17 (tTold bs H (adv bs s.1)).1 ((tTold bs H (adv bs s.1)).2, s.2)) ?_ ?_
    · unfold stU
      rw [if_neg (hno (fun h => h.1 (Or.inl c3)) (fun h => by omega)), if_neg hnt, if_neg (by omega), if_pos c3]
    · unfold pU; rw [if_neg c0, if_neg c2, if_pos c3]
  by_cases c4 : isGv (qx bs s.1.1) = true
  · have q2 : qs bs s.1.1 = -1 := by
      unfold isGv at c4
      rw [decide_eq_true_eq] at c4
      omega
    refine hgood (eAdv bs (au (qx bs s.1.1).toNat 0 s)) ?_ ?_
    · unfold stU
      rw [if_neg (hno (fun h => h.1 (Or.inr c4)) (fun h => by omega)), if_neg hnt, if_neg (by omega), if_neg c3, if_pos c4]
    · unfold pU; rw [if_neg c0, if_neg c2, if_neg c3, if_pos c4]
  have cw : ¬ (qx bs s.1.1 = 17 ∨ isGv (qx bs s.1.1) = true) := fun h => h.elim c3 c4
  by_cases c5 : qs bs s.1.1 = 40
  · cases hrr : r with
    | none =>
      rw [← hrr]
      refine hbad (eRfu bs s) ?_ (rfu_bad s.1) ?_
      · unfold stU; rw [if_pos (Or.inr ⟨Or.inr c5, by rw [hw]; exact hr.mp hrr⟩)]
      · unfold pU; rw [if_neg c0, if_neg c2, if_neg c3, if_neg c4, if_pos c5, hrr]
    | some e =>
      have hd7 : d ≠ 7 := fun q => by rw [hr.mpr q] at hrr; cases hrr
      have e1 : stU bs H st s = (true, (7, 12) :: st, eAdv bs (s.1, s.2.1, s.2.2 + 1)) := by
        unfold stU
        rw [if_neg (hno (fun h => h.2.2 c5) (fun _ => hd7)), if_neg hnt, if_pos c5]
      have e2 : pU bs H (some e) s = (tSign bs 41 (e (eAdv bs (s.1, s.2.1, s.2.2 + 1))).1, (e (eAdv bs (s.1, s.2.1, s.2.2 + 1))).2) := by
        unfold pU; rw [if_neg c0, if_neg c2, if_neg c3, if_neg c4, if_pos c5]
      have h5 := hE e hrr ((7, 12) :: st) (eAdv bs (s.1, s.2.1, s.2.2 + 1)) (by rw [wth, if_pos (Or.inr rfl)]; omega) (by show 7 ≤ 7; decide) (by simp) hg (by show s.2.2 + 1 ≤ 40; omega)
      rw [e2]
      generalize e (eAdv bs (s.1, s.2.1, s.2.2 + 1)) = s1 at *
      have up : ∀ r', Rn bs H (true, (7, 12) :: st, eAdv bs (s.1, s.2.1, s.2.2 + 1)) r' → Rn bs H (true, st, s) r' := fun r' h => Rn_step (x := (true, st, s)) hg hst (by show Rn bs H (stU bs H st s) r'; rw [e1]; exact h)
      by_cases g : s1.1.2.1 = 0
      · rcases h5.2 g with ⟨k1, k2⟩ | ⟨-, k2, rr, k3, k4⟩
        · have k0 : rk bs s1.1.1 = 0 := by omega
          have e3 : stp bs H (false, (7, 12) :: st, s1) = (false, st, (tSign bs 41 s1.1, s1.2)) := by
            show stB bs _ s1 = _
            unfold stB
            rw [k0, if_neg (by omega), if_neg (by omega), pops_keep (Or.inr (by show 7 ≤ 7; decide))]
            rfl
          have dn : ∀ r', Rn bs H (false, st, (tSign bs 41 s1.1, s1.2)) r' → ∃ r'', Rn bs H (true, st, s) r'' ∧ eqv r'' r' := fun r' h => by
            obtain ⟨r2, h1, h2⟩ := k2 r' (Rn_step (x := (false, (7, 12) :: st, s1)) g (by simp) (by rw [e3]; exact h))
            exact ⟨r2, up _ h1, h2⟩
          refine ⟨fun q => ?_, fun q => Or.inl ⟨(rk_all bs _).2.2.2.2.2.1, dn⟩⟩
          obtain ⟨r2, h1, h2⟩ := dn _ (Rn_stop (by intro z; exact q z.1))
          exact ⟨r2, h1, h2.1⟩
        · have q2 : qs bs s1.1.1 ≠ 41 := by
            intro q
            have h9 := (rk_all bs s1.1.1).2.2.1
            rw [if_pos k2] at h9
            unfold oC at h9
            rw [if_neg (by omega)] at h9
            cases h9
          have e4 : tSign bs 41 s1.1 = rfu bs s1.1 := by unfold tSign; rw [if_neg (by intro z; exact q2 z.2)]
          rw [e4]
          exact ⟨fun _ => ⟨rr, up _ k3, k4⟩, fun q => absurd q (rfu_bad s1.1)⟩
      · have e4 : (tSign bs 41 s1.1).2 = s1.1.2 := by
          unfold tSign rfu bla
          rw [if_neg (by intro z; exact g z.1), if_neg g]
        refine ⟨fun _ => ?_, fun q => absurd (show s1.1.2.1 = 0 by rw [← e4]; exact q) g⟩
        obtain ⟨r2, h1, h2⟩ := h5.1 g
        exact ⟨r2, up _ h1, h2.trans e4.symm⟩
  · refine hbad (eRfu bs s) ?_ (rfu_bad s.1) ?_
    · unfold stU; rw [if_pos (Or.inl ⟨hnt, Or.inl ⟨cw, c2, c5⟩⟩)]
    · unfold pU; rw [if_neg c0, if_neg c2, if_neg c3, if_neg c4, if_neg c5]
theorem tSign_good {c : Nat} {s : Ps} (h : (tSign bs c s).2.1 = 0) : s.2.1 = 0 ∧ qs bs s.1 = c ∧ tSign bs c s = adv bs s := by
  by_cases c1 : s.2.1 = 0 ∧ qs bs s.1 = c
  · exact ⟨c1.1, c1.2, by unfold tSign; rw [if_pos c1]⟩
  · unfold tSign at h; rw [if_neg c1] at h; exact absurd h (rfu_bad s)
theorem Un_U {r : Option (Es → Es)} (hE : ∀ e, r = some e → Un e) : Un (pU bs H r) := by
  intro s hg hu h
  unfold pU at h ⊢
  by_cases c0 : s.1.2.1 ≠ 0 ∨ 40 ≤ s.2.2
  · rw [if_pos c0] at h; exact absurd h (rfu_bad s.1)
  rw [if_neg c0] at h ⊢
  split
  · exact ⟨by show s.2.2 < s.2.2 + 1; omega, by show s.2.2 + 1 ≤ 40; omega⟩
  rename_i c2
  rw [if_neg c2] at h
  split
  · exact ⟨by show s.2.2 < s.2.2 + 1; omega, by show s.2.2 + 1 ≤ 40; omega⟩
  rename_i c3
  rw [if_neg c3] at h
  split
  · exact ⟨by show s.2.2 < s.2.2 + 1; omega, by show s.2.2 + 1 ≤ 40; omega⟩
  rename_i c4
  rw [if_neg c4] at h
  by_cases c5 : qs bs s.1.1 = 40
  · rw [if_pos c5] at h ⊢
    cases hrr : r with
    | none => rw [hrr] at h; exact absurd h (rfu_bad s.1)
    | some e =>
      rw [hrr] at h
      have h1 := tSign_good (bs := bs) (c := 41) (s := (e (eAdv bs (s.1, s.2.1, s.2.2 + 1))).1) h
      have h2 := hE e hrr (eAdv bs (s.1, s.2.1, s.2.2 + 1)) hg (by show s.2.2 + 1 ≤ 40; omega) h1.1
      have h3 : s.2.2 + 1 < (e (eAdv bs (s.1, s.2.1, s.2.2 + 1))).2.2 := h2.1
      exact ⟨by show s.2.2 < (e (eAdv bs (s.1, s.2.1, s.2.2 + 1))).2.2; omega, h2.2⟩
  · rw [if_neg c5] at h; exact absurd h (rfu_bad s.1)
theorem sim_O : ∀ k, k ≤ 7 → SmO bs H (7 - k) (pO bs H k) ∧ Un (pO bs H k)
  | 0, _ => by
    have hUn : Un (pU bs H none) := Un_U (fun e h => by cases h)
    refine ⟨fun st s hst hw hT hg hu => ?_, fun s hg hu h => ?_⟩
    · rw [pO]
      by_cases c : qx bs s.1.1 = 12
      · rw [if_pos c]
        exact ⟨fun _ => ⟨_, Rn_step (x := (true, st, s)) hg hst (by show Rn bs H (stU bs H st s) _; rw [stU_12d c hT hw]; exact Rn_stop (by intro q; exact rfu_bad s.1 q.1)), rfl⟩, fun q => absurd q (rfu_bad s.1)⟩
      · rw [if_neg c]
        exact sim_C (sim_U (d := 7) (by decide) (by simp) (fun e h => by cases h)) hUn hst hw hT hg hu c
    · rw [pO] at h ⊢
      by_cases c : qx bs s.1.1 = 12
      · rw [if_pos c] at h; exact absurd h (rfu_bad s.1)
      · rw [if_neg c] at h ⊢; exact Un_C hUn s hg hu h
  | k + 1, hk => by
    obtain ⟨h1, h2⟩ := sim_O k (by omega)
    have hUn : Un (pU bs H (some (pE bs (pO bs H k)))) := Un_U (fun e h => by cases h; exact Un_E h2)
    refine ⟨fun st s hst hw hT hg hu => ?_, fun s hg hu h => ?_⟩
    · rw [pO]
      by_cases c : qx bs s.1.1 = 12
      · rw [if_pos c, if_pos hg]
        have e1 := stU_12 (H := H) c hT (by omega)
        have up : ∀ r', Rn bs H (true, (3, 12) :: st, eAdv bs s) r' → Rn bs H (true, st, s) r' := fun r' h => Rn_step (x := (true, st, s)) hg hst (by show Rn bs H (stU bs H st s) r'; rw [e1]; exact h)
        have h5 := h1 ((3, 12) :: st) (eAdv bs s) (by simp) (by rw [wth, if_pos (Or.inl rfl)]; omega) (by unfold topO topR; show 3 ≤ 3 ∨ 7 ≤ 3; decide) hg hu
        generalize pO bs H k (eAdv bs s) = s1 at *
        refine ⟨fun q => ?_, fun q => ?_⟩
        · obtain ⟨r, q1, q2⟩ := h5.1 q
          exact ⟨r, up _ q1, q2⟩
        · have q : s1.1.2.1 = 0 := q
          rcases h5.2 q with ⟨k1, k2⟩ | ⟨-, k2, rr, k3, k4⟩
          · have k1 : rk bs s1.1.1 ≤ 2 := k1
            left
            refine ⟨k1, fun r hr => ?_⟩
            obtain ⟨r1, q1, q2⟩ := pop_ok (t := (3, 12)) (by decide) (by show rk bs s1.1.1 ≤ 3; omega) (by intro z; omega) q hst hr
            obtain ⟨r2, q3, q4⟩ := k2 r1 q1
            exact ⟨r2, up _ q3, q4.trans q2⟩
          · exact Or.inr ⟨trivial, k2, rr, up _ k3, k4⟩
      · rw [if_neg c]
        refine sim_C (d := 7 - (k + 1)) (sim_U (by omega) ⟨fun h => (by cases h), fun h => by omega⟩ (fun e h => ?_)) hUn hst hw hT hg hu c
        cases h
        intro st' s' q1 q2 q3 q4 q5
        exact sim_E (d := 7 - k) h1 h2 q3 (by omega) q2 q4 q5
    · rw [pO] at h ⊢
      by_cases c : qx bs s.1.1 = 12
      · rw [if_pos c, if_pos hg] at h ⊢
        exact h2 (eAdv bs s) hg hu h
      · rw [if_neg c] at h ⊢; exact Un_C hUn s hg hu h
/-- the whole law: the pile ends in what the descent ends in, or both at one fault by the next ; -/
theorem sim_law {s : Es} (hg : s.1.2.1 = 0) (hu : s.2.2 ≤ 40) : ∃ r, Rn bs H (true, [(8, 0)], s) r ∧ (tSign bs 59 r.1).2 = (tSign bs 59 (pEk bs H 7 s).1).2 ∧ ((tSign bs 59 (pEk bs H 7 s).1).2.1 = 0 → r = pEk bs H 7 s) := by
  obtain ⟨h1, h2⟩ := sim_O (bs := bs) (H := H) 7 (by decide)
  have h := sim_E (d := 0) (H := H) h1 h2 (st := [(8, 0)]) (s := s) (by simp) rfl (by show 7 ≤ 8; decide) hg hu
  unfold pEk
  generalize pE bs (pO bs H 7) s = s1 at *
  by_cases g : s1.1.2.1 = 0
  · rcases h.2 g with ⟨k1, k2⟩ | ⟨-, k2, rr, k3, k4⟩
    · have k0 : rk bs s1.1.1 = 0 := by omega
      have e3 : stp bs H (false, [(8, 0)], s1) = (false, [], s1) := by
        show stB bs _ s1 = _
        unfold stB
        rw [k0, if_neg (by omega), if_neg (by omega), pops_keep (Or.inr (by show 7 ≤ 8; decide))]
        rfl
      obtain ⟨r, q1, q2⟩ := k2 s1 (Rn_step (x := (false, [(8, 0)], s1)) g (by simp) (by rw [e3]; exact Rn_stop (by intro z; exact z.2 rfl)))
      have := q2.2 g
      exact ⟨r, q1, by rw [this], fun _ => this⟩
    · have q2 : qs bs s1.1.1 ≠ 59 := by
        intro q
        have h9 := (rk_all bs s1.1.1).2.2.1
        rw [if_pos k2] at h9
        unfold oC at h9
        rw [if_neg (by omega)] at h9
        cases h9
      have e4 : tSign bs 59 s1.1 = rfu bs s1.1 := by unfold tSign; rw [if_neg (by intro z; exact q2 z.2)]
      have g2 : rr.1.2.1 ≠ 0 := by rw [k4]; exact rfu_bad s1.1
      refine ⟨rr, k3, ?_, fun q => absurd q (by rw [e4]; exact rfu_bad s1.1)⟩
      rw [e4]
      have : (tSign bs 59 rr.1).2 = rr.1.2 := by unfold tSign rfu bla; rw [if_neg (by intro z; exact g2 z.1), if_neg g2]
      rw [this, k4]; rfl
  · obtain ⟨r, q1, q2⟩ := h.1 g
    have e4 : ∀ s' : Es, s'.1.2.1 ≠ 0 → (tSign bs 59 s'.1).2 = s'.1.2 := fun s' g' => by
      unfold tSign rfu bla
      rw [if_neg (by intro z; exact g' z.1), if_neg g']
    refine ⟨r, q1, ?_, fun q => absurd q (by rw [e4 s1 g]; exact g)⟩
    rw [e4 s1 g, e4 r (by rw [q2]; exact g), q2]
end
