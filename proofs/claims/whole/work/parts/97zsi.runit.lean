section
variable {Γ : rhG} {M M' : rhM} {b : Nat} {bs : List Int32} {s : Ps} {H : List (List Nat)}
/-- what a step of the law leaves -/
def YR (b : Nat) (bs : List Int32) (M : rhM) (x : Xs) (r : Int32 × rhM) : Prop := r.1 = bf x.1 ∧ YL b M r.2 ∧ XSt r.2 b bs x
theorem y_unit {st : Pk} {s : Es} (hE : EV Γ M b H) (hX : XSt M b bs (true, st, s)) (hI : XI bs (true, st, s)) (hn : st ≠ []) (hg : s.1.2.1 = 0) : wp (f_X12_unit Γ M 102) (YR b bs M (stU bs H st s)) := by
  obtain ⟨hG, hR, hb, h35, hN, hH, h6⟩ := id hE
  obtain ⟨hQ, hX⟩ := hX
  obtain ⟨hP, hC, hw⟩ := hX hg
  obtain ⟨iP, iB, iw, iu, ic, il⟩ := hI
  have hQ : QS M bs s.1 := hQ
  have hP : PS M st := hP
  have hC : EC M b s.2 := hC
  have hw : M.1 102 37 = J (wth st) := hw
  have iw : wth st ≤ 7 := iw
  have iu : s.2.2 ≤ 40 := iu
  have ic : s.2.1.length + st.length ≤ 9 * s.2.2 + 1 + (1 + wth st) := ic
  have hL := PV.len iP
  have hL : st.length ≤ 1 + 7 * wth st + tR6 st := hL
  have h6' := tR6_le st
  obtain ⟨i, t1, t2, t3⟩ := id hQ.1
  have ei := t3 hg
  rw [ei] at t1 t2
  have hk5 : qk bs s.1.1 ≤ 5 := by unfold qk; (repeat' split) <;> omega
  obtain ⟨nt, dnt, hnt, est⟩ : ∃ (nt : Prop) (_ : Decidable nt), ((topR st ≤ 3 ∨ 7 ≤ topR st) ∧ qx bs s.1.1 = 12) = nt ∧ stU bs H st s = if (¬ nt ∧ ((¬ (qx bs s.1.1 = 17 ∨ isGv (qx bs s.1.1) = true) ∧ qk bs s.1.1 ≠ 4 ∧ qs bs s.1.1 ≠ 40) ∨ s.2.2 = 40)) ∨ ((nt ∨ qs bs s.1.1 = 40) ∧ wth st = 7) then (true, st, eRfu bs s)
    else if nt then (true, (3, 12) :: st, eAdv bs s)
    else if qs bs s.1.1 = 40 then (true, (7, 12) :: st, eAdv bs (s.1, s.2.1, s.2.2 + 1))
    else if qx bs s.1.1 = 17 then (false, st, au 17 (tTold bs H (adv bs s.1)).1 ((tTold bs H (adv bs s.1)).2, s.2))
    else if isGv (qx bs s.1.1) = true then (false, st, eAdv bs (au (qx bs s.1.1).toNat 0 s))
    else (false, st, eAdv bs (au 48 (qv bs s.1.1) s)) := ⟨((topR st ≤ 3 ∨ 7 ≤ topR st) ∧ qx bs s.1.1 = 12), inferInstance, rfl, rfl⟩
  have hnt2 : qx bs s.1.1 = 12 → ¬ (qx bs s.1.1 = 17 ∨ isGv (qx bs s.1.1) = true) := fun e => by
    rw [e]; decide
  have hbr2 : qs bs s.1.1 = 40 → qx bs s.1.1 = -1 := fun e => by
    rcases qx_qs bs s.1.1 with z | z
    · exact z
    · rw [z] at e; omega
  generalize hU : stU bs H st s = x at *
  /- misplaced -/
  have A : x = (true, st, eRfu bs s) → ∀ v2 v3 v4 : Int32, wp (f_X12_unit_122 (f_X12_unit_126 Γ) Γ M 102 v2 v3 v4) (YR b bs M x) := fun e v2 v3 v4 => by
    have hb4 := rfu_bad (bs := bs) s.1
    rw [f_X12_unit_122, wp_ck_t (GKk102 hG), wp_bind]
    refine (y_mis hG hQ).mono (fun M1 z => ?_)
    rw [f_X12_unit_126, wp_ck_t (GKk102 hG), wp_bind, y_good hG z.2, if_neg hb4, wp_some, wp_ite_t rfl, wp_some, e]
    exact ⟨rfl, YL.yx z.1, z.2, fun q => absurd q hb4⟩
  /- units counted, the token taken -/
  have U : ∀ (d : Nat) (K : rhM → Option (Int32 × rhM)), (∀ M1, YL b M M1 → QS M1 bs (adv bs s.1) → PS M1 st → EC M1 b (s.2.1, s.2.2 + d) → M1.1 102 37 = J (wth st) → wp (K M1) (YR b bs M x)) → wp ((f_X12_goOn Γ (rhsi M 108 b (J (s.2.2 : Nat) + J (d : Nat))) 102).bind K) (YR b bs M x) := fun d K hK => by
    have q1 : QS (rhsi M 108 b (J (s.2.2 : Nat) + J (d : Nat))) bs s.1 := hQ.c (by decide) (by decide) _ _
    have R1 : MR (rhsi M 108 b (J (s.2.2 : Nat) + J (d : Nat))) := hR
    have L1 : YL b M (rhsi M 108 b (J (s.2.2 : Nat) + J (d : Nat))) := (YL.refl _ _).si (by omega) _
    rw [wp_bind]
    refine (y_goOn hG R1 q1 hg).mono (fun M1 z => hK M1 (L1.trans (YL.yx z.1)) z.2 ?_ ?_ ?_)
    · refine hP.eq (by rw [z.1.1.i (by decide)]; funext k; rw [si_1, if_neg (by omega)]) (by rw [z.1.1.i (by decide)]; funext k; rw [si_1, if_neg (by omega)]) (by rw [z.1.2 38 (by decide), si_1, if_neg (by omega)])
    · obtain ⟨e0, e1, e2, e3⟩ := hC
      refine ⟨by rw [z.1.2 36 (by decide), si_1, if_neg (by omega)]; exact e0, ?_, ?_, ?_⟩
      · rw [z.1.1.i (by decide), si_1, if_pos ⟨rfl, rfl⟩, J_add]
        show J ((s.2.2 : Int) + d) = J ((s.2.2 + d : Nat) : Int)
        congr 1
      · have : M1.1 123 = M.1 123 := by rw [z.1.1.i (by decide)]; funext k; rw [si_1, if_neg (by omega)]
        rw [this]; exact e2
      · have : M1.1 124 = M.1 124 := by rw [z.1.1.i (by decide)]; funext k; rw [si_1, if_neg (by omega)]
        rw [this]; exact e3
    · rw [z.1.2 37 (by decide), si_1, if_neg (by omega)]; exact hw
  /- an operator pushed -/
  have P : ∀ (d k : Nat) (M1 : rhM), YL b M M1 → QS M1 bs (adv bs s.1) → PS M1 st → EC M1 b (s.2.1, s.2.2 + d) → M1.1 102 37 = J (wth st) → wth ((k, 12) :: st) = 1 + wth st → x = (true, (k, 12) :: st, (adv bs s.1, s.2.1, s.2.2 + d)) → wp (f_X12_unit_194 Γ M1 102 102 (J k)) (YR b bs M x) := fun d k M1 L1 q1 p1 c1 w1 ew ex => by
    have R1 : MR M1 := (hE.yl L1).2.1
    rw [f_X12_unit_194, wp_ck_t (GKk102 hG)]
    show wp ((f_X12_pushE Γ M1 102 (J k) (J (mch 12))).bind _) _
    rw [wp_bind]
    refine (y_push (b := b) (bs := bs) hG R1 p1 (by omega) (k := k) (c := 12) rfl).mono (fun M2 z => ?_)
    obtain ⟨z1, z2, z3, z4, z5⟩ := z
    rw [wp_ck_t (GKk102 hG), wp_some, ex]
    have e37 : M2.1 102 37 + 1 = J (wth ((k, 12) :: st) : Nat) := by
      rw [z5 37 (by decide), w1, ew, show (1 : Int32) = J 1 from rfl, J_add]; congr 1; omega
    refine ⟨rfl, (L1.trans z1).si (by omega) _, ((z2 _ q1).f (by decide) _), fun _ => ⟨?_, ?_, ?_⟩⟩
    · exact z3.eq (by funext j; rw [si_1, if_neg (by omega)]) (by funext j; rw [si_1, if_neg (by omega)]) (by rw [si_1, if_neg (by omega)])
    · refine c1.eq ?_ ?_ ?_ ?_
      · rw [si_1, if_neg (by omega)]; exact z5 36 (by decide)
      · rw [si_1, if_neg (by omega), z4 108 (by decide) (by decide) (by decide)]
      · funext j; rw [si_1, if_neg (by omega), z4 123 (by decide) (by decide) (by decide)]
      · funext j; rw [si_1, if_neg (by omega), z4 124 (by decide) (by decide) (by decide)]
    · rw [si_1, if_pos ⟨rfl, rfl⟩]; exact e37
  /- a step of the code -/
  have Em : ∀ (M1 : rhM) (s1 : Ps) (k n : Nat) (v w : Int32), YL b M M1 → QS M1 bs s1 → PS M1 st → EC M1 b (s.2.1, s.2.2 + 1) → M1.1 102 37 = J (wth st) → v = J (mch k) → (s1.2.1 = 0 → w = J n) → x = (false, st, (s1, s.2.1 ++ [(k, n)], s.2.2 + 1)) → wp (f_X12_unit_241 Γ M1 w 102 v) (YR b bs M x) := fun M1 s1 k n v w L1 q1 p1 c1 w1 hv hw' ex => by
    have R1 : MR M1 := (hE.yl L1).2.1
    rw [f_X12_unit_241, wp_ck_t (GKk102 hG), wp_bind]
    refine (y_emit (bs := bs) hG R1 hb c1 (by show s.2.1.length < 500; omega) v w).mono (fun M2 z => ?_)
    obtain ⟨z1, z2, z3, z4, z5, z6⟩ := z
    rw [wp_some, ex]
    refine ⟨rfl, L1.trans z1, z2 _ q1, fun g => ⟨p1.eq z3 z4 (z5 38 (by decide)), z6 k n hv (hw' g), by rw [z5 37 (by decide)]; exact w1⟩⟩
  have B : ¬ ((¬ nt ∧ ((¬ (qx bs s.1.1 = 17 ∨ isGv (qx bs s.1.1) = true) ∧ qk bs s.1.1 ≠ 4 ∧ qs bs s.1.1 ≠ 40) ∨ s.2.2 = 40)) ∨ ((nt ∨ qs bs s.1.1 = 40) ∧ wth st = 7)) → wp (f_X12_unit_126 Γ M 102 (if nt then 1 else 0) (if qs bs s.1.1 = 40 then 1 else 0) (J (wv (qx bs s.1.1)))) (YR b bs M x) := fun hno => by
    rw [if_neg hno] at est
    have e108 : M.1 108 b = J s.2.2 := hC.2.1
    rw [f_X12_unit_126, wp_ck_t (GKk102 hG), wp_bind, y_good hG hQ, if_pos hg, wp_some, wp_ite_f (by decide), MRf14 hR, wp_ck_t (GKk108 hG), h35, wp_ck_t (by rw [J_toInt (by omega) (by omega), GKl108 hG]; omega), J_clamp (by omega) (by omega), Int.toNat_natCast, e108]
    have f169 : ∀ (v2 v3 : Int32) (d : Nat) (K : Int32 → rhM → Option (Int32 × rhM)), (∀ sv M1, K sv M1 = (if v2 = 0 then (if v3 = 0 then (if J (wv (qx bs s.1.1)) = 104 then ((f_X12_houseHere Γ M1 102).bind fun r39 => (f_X12_known Γ M1 102 r39).bind fun r40 => f_X12_unit_228 Γ r40.2 102 (J (wv (qx bs s.1.1))) r40.1) else f_X12_unit_228 Γ M1 102 (J (wv (qx bs s.1.1))) sv) else f_X12_unit_183 Γ M1 102 v2) else f_X12_unit_183 Γ M1 102 v2)) →
        (∀ M1, YL b M M1 → QS M1 bs (adv bs s.1) → PS M1 st → EC M1 b (s.2.1, s.2.2 + d) → M1.1 102 37 = J (wth st) → wp (K (if (qx bs s.1.1 = 17 ∨ isGv (qx bs s.1.1) = true) then 0 else M.1 102 9) M1) (YR b bs M x)) → wp (f_X12_unit_154 Γ M 102 v2 v3 (J (wv (qx bs s.1.1))) 108 (J b) (J s.2.2) (J (d : Nat))) (YR b bs M x) := fun v2 v3 d K hKe hK => by
      rw [f_X12_unit_154, wp_ck_t (GKk108 hG), wp_ck_t (by rw [J_toInt (by omega) (by omega), GKl108 hG]; omega), J_clamp (by omega) (by omega), Int.toNat_natCast]
      by_cases c : (qx bs s.1.1 = 17 ∨ isGv (qx bs s.1.1) = true)
      · rw [wp_ite_f (by rw [wv_0]; exact fun z => z c), f_X12_unit_169, wp_ck_t (GKk102 hG)]
        rw [if_pos c] at hK
        refine U d _ (fun M1 a1 a2 a3 a4 a5 => ?_)
        have := hK M1 a1 a2 a3 a4 a5
        rw [hKe] at this; exact this
      · rw [wp_ite_t (by rw [wv_0]; exact c), wp_ck_t (GKk102 hG), f_X12_unit_169, wp_ck_t (GKk102 hG)]
        rw [if_neg c] at hK
        refine U d _ (fun M1 a1 a2 a3 a4 a5 => ?_)
        have := hK M1 a1 a2 a3 a4 a5
        rw [hKe] at this
        have e9 : (rhsi M 108 b (J (s.2.2 : Nat) + J (d : Nat))).1 102 9 = M.1 102 9 := by rw [si_1, if_neg (by omega)]
        rw [e9]; exact this
    by_cases c1 : nt
    · rw [if_pos c1] at est
      rw [if_pos c1, wp_ite_f (by decide)]
      refine f169 1 _ 0 (fun sv M1 => f_X12_unit_183 Γ M1 102 1) (fun sv M1 => by rw [if_neg (by decide)]) (fun M1 a1 a2 a3 a4 a5 => ?_)
      rw [f_X12_unit_183, wp_ite_f (by decide)]
      exact P 0 3 M1 a1 a2 a3 a4 a5 rfl est
    rw [if_neg c1] at est
    rw [if_neg c1, wp_ite_t rfl]
    by_cases c2 : qs bs s.1.1 = 40
    · rw [if_pos c2] at est
      rw [if_pos c2]
      refine f169 0 1 1 (fun sv M1 => f_X12_unit_183 Γ M1 102 0) (fun sv M1 => by rw [if_pos rfl, if_neg (by decide)]) (fun M1 a1 a2 a3 a4 a5 => ?_)
      rw [f_X12_unit_183, wp_ite_t rfl]
      exact P 1 7 M1 a1 a2 a3 a4 a5 rfl est
    rw [if_neg c2] at est
    rw [if_neg c2]
    have n40 : s.2.2 ≠ 40 := fun z => hno (Or.inl ⟨c1, Or.inr z⟩)
    refine f169 0 0 1 _ (fun sv M1 => by rw [if_pos rfl, if_pos rfl]) (fun M1 a1 a2 a3 a4 a5 => ?_)
    by_cases c3 : qx bs s.1.1 = 17
    · rw [if_pos c3] at est
      rw [if_pos (Or.inl c3)]
      have e104 : J (wv (qx bs s.1.1)) = 104 := by rw [c3]; rfl
      obtain ⟨j, j1, j2, j3⟩ := id a2.1
      have E1 := hE.yl a1
      have hr := hre_rng bs H j
      rw [wp_ite_t e104, wp_bind, y_houseHere E1 j1, wp_some, wp_bind]
      refine (y_known (H := H) hG E1.2.1 a2 (by omega) (z := hre bs H j) (by omega) (fun g => by rw [j3 g])).mono (fun r y => ?_)
      rw [f_X12_unit_228, wp_ite_f (by rw [e104]; decide)]
      refine Em r.2 _ 17 _ _ r.1 (a1.trans (YL.yx y.1)) y.2.1 (a3.eq (by rw [y.1.1.i (by decide)]) (by rw [y.1.1.i (by decide)]) (y.1.2 38 (by decide))) (a4.eq (y.1.2 36 (by decide)) (by rw [y.1.1.i (by decide)]) (by rw [y.1.1.i (by decide)]) (by rw [y.1.1.i (by decide)])) (by rw [y.1.2 37 (by decide)]; exact a5) (by rw [e104]; rfl) (fun g => y.2.2.1 g) est
    rw [if_neg c3] at est
    have h104 : ¬ J (wv (qx bs s.1.1)) = 104 := by
      have hb : wv (qx bs s.1.1) < 1000 := by unfold wv; (repeat' split) <;> decide
      rw [show (104 : Int32) = J 104 from rfl, J_eq (by omega) (by omega) (by omega) (by omega)]
      unfold wv
      (repeat' split) <;> omega
    rw [wp_ite_f h104]
    by_cases c4 : isGv (qx bs s.1.1) = true
    · rw [if_pos c4] at est
      rw [if_pos (Or.inr c4), f_X12_unit_228, wp_ite_f (by rw [wv_0]; exact fun z => z (Or.inr c4))]
      exact Em M1 _ (qx bs s.1.1).toNat 0 _ 0 a1 a2 a3 a4 a5 (wv_mch c4) (fun _ => rfl) est
    · rw [if_neg c4] at est
      have c5 : qk bs s.1.1 = 4 := by
        apply Classical.byContradiction
        intro z
        exact hno (Or.inl ⟨c1, Or.inl ⟨fun y => y.elim c3 c4, z, c2⟩⟩)
      rw [if_neg (fun z => z.elim c3 c4), f_X12_unit_228, wp_ite_t (by rw [wv_0]; exact fun z => z.elim c3 c4)]
      exact Em M1 _ 48 (qv bs s.1.1) _ _ a1 a2 a3 a4 a5 rfl (fun _ => t1.2.2.2.2.2 c5) est
  /- the choice -/
  have p113 : (nt ∨ qs bs s.1.1 = 40) → ¬ (¬ nt ∧ ((¬ (qx bs s.1.1 = 17 ∨ isGv (qx bs s.1.1) = true) ∧ qk bs s.1.1 ≠ 4 ∧ qs bs s.1.1 ≠ 40) ∨ s.2.2 = 40)) → wp (f_X12_unit_113 (f_X12_unit_122 (f_X12_unit_126 Γ) Γ) (f_X12_unit_126 Γ) Γ M 102 (if nt then 1 else 0) (if qs bs s.1.1 = 40 then 1 else 0) (J (wv (qx bs s.1.1)))) (YR b bs M x) := fun h1 h2 => by
    rw [f_X12_unit_113, wp_ck_t (GKk102 hG), hw]
    by_cases c : wth st = 7
    · rw [wp_ite_t (by rw [c]; rfl)]
      exact A (by rw [est, if_pos (Or.inr ⟨h1, c⟩)]) _ _ _
    · rw [wp_ite_f (by rw [show (7 : Int32) = J 7 from rfl, J_eq (by omega) (by omega) (by omega) (by omega)]; omega)]
      exact B (fun z => z.elim h2 (fun z => c z.2))
  have p105 : ¬ (¬ nt ∧ ((¬ (qx bs s.1.1 = 17 ∨ isGv (qx bs s.1.1) = true) ∧ qk bs s.1.1 ≠ 4 ∧ qs bs s.1.1 ≠ 40) ∨ s.2.2 = 40)) → wp (f_X12_unit_105 (f_X12_unit_122 (f_X12_unit_126 Γ) Γ) (f_X12_unit_126 Γ) Γ M 102 (if nt then 1 else 0) (if qs bs s.1.1 = 40 then 1 else 0) (J (wv (qx bs s.1.1)))) (YR b bs M x) := fun h2 => by
    rw [f_X12_unit_105]
    by_cases c1 : nt
    · rw [wp_ite_f (by rw [if_pos c1]; decide)]; exact p113 (Or.inl c1) h2
    rw [wp_ite_t (by rw [if_neg c1])]
    by_cases c2 : qs bs s.1.1 = 40
    · rw [wp_ite_f (by rw [if_pos c2]; decide)]; exact p113 (Or.inr c2) h2
    · rw [wp_ite_t (by rw [if_neg c2])]
      exact B (fun z => z.elim h2 (fun z => z.1.elim c1 c2))
  have p91 : ¬ nt → ¬ (¬ (qx bs s.1.1 = 17 ∨ isGv (qx bs s.1.1) = true) ∧ qk bs s.1.1 ≠ 4 ∧ qs bs s.1.1 ≠ 40) → wp (f_X12_unit_91 (f_X12_unit_105 (f_X12_unit_122 (f_X12_unit_126 Γ) Γ) (f_X12_unit_126 Γ) Γ) (f_X12_unit_122 (f_X12_unit_126 Γ) Γ) Γ M 102 (if nt then 1 else 0) (if qs bs s.1.1 = 40 then 1 else 0) (J (wv (qx bs s.1.1)))) (YR b bs M x) := fun h1 h2 => by
    have e108 : M.1 108 b = J s.2.2 := hC.2.1
    rw [f_X12_unit_91, wp_ck_t (GKk102 hG), MRf14 hR, wp_ck_t (GKk108 hG), h35, wp_ck_t (by rw [J_toInt (by omega) (by omega), GKl108 hG]; omega), J_clamp (by omega) (by omega), Int.toNat_natCast, e108]
    by_cases c : s.2.2 = 40
    · rw [wp_ite_t (by rw [c]; rfl)]
      exact A (by rw [est, if_pos (Or.inl ⟨h1, Or.inr c⟩)]) _ _ _
    · rw [wp_ite_f (by rw [show (40 : Int32) = J 40 from rfl, J_eq (by omega) (by omega) (by omega) (by omega)]; omega)]
      exact p105 (fun z => z.2.elim h2 c)
  have p56 : wp (f_X12_unit_56 Γ M 102 (if nt then 1 else 0)) (YR b bs M x) := by
    rw [f_X12_unit_56, wp_ck_t (GKk102 hG)]
    show wp ((f_X12_stands Γ M 102 (J (40 : Nat))).bind _) _
    rw [wp_bind, y_standsA hG hR t1 t2 (c := 40) (by decide), wp_some, wp_bind, y_wordHere hG t1, wp_some]
    show wp (if (if nt then (1 : Int32) else 0) = 0 then (if J (wv (qx bs s.1.1)) = 0 then (if M.1 102 8 = 4 then f_X12_unit_91 (f_X12_unit_105 (f_X12_unit_122 (f_X12_unit_126 Γ) Γ) (f_X12_unit_126 Γ) Γ) (f_X12_unit_122 (f_X12_unit_126 Γ) Γ) Γ M 102 (if nt then 1 else 0) (if qs bs s.1.1 = 40 then 1 else 0) (J (wv (qx bs s.1.1))) else if (if qs bs s.1.1 = 40 then (1 : Int32) else 0) = 0 then f_X12_unit_122 (f_X12_unit_126 Γ) Γ M 102 (if nt then 1 else 0) (if qs bs s.1.1 = 40 then 1 else 0) (J (wv (qx bs s.1.1))) else f_X12_unit_91 (f_X12_unit_105 (f_X12_unit_122 (f_X12_unit_126 Γ) Γ) (f_X12_unit_126 Γ) Γ) (f_X12_unit_122 (f_X12_unit_126 Γ) Γ) Γ M 102 (if nt then 1 else 0) (if qs bs s.1.1 = 40 then 1 else 0) (J (wv (qx bs s.1.1)))) else f_X12_unit_91 (f_X12_unit_105 (f_X12_unit_122 (f_X12_unit_126 Γ) Γ) (f_X12_unit_126 Γ) Γ) (f_X12_unit_122 (f_X12_unit_126 Γ) Γ) Γ M 102 (if nt then 1 else 0) (if qs bs s.1.1 = 40 then 1 else 0) (J (wv (qx bs s.1.1)))) else f_X12_unit_105 (f_X12_unit_122 (f_X12_unit_126 Γ) Γ) (f_X12_unit_126 Γ) Γ M 102 (if nt then 1 else 0) (if qs bs s.1.1 = 40 then 1 else 0) (J (wv (qx bs s.1.1)))) _
    by_cases c1 : nt
    · rw [wp_ite_f (by rw [if_pos c1]; decide)]
      exact p105 (fun z => z.1 c1)
    rw [wp_ite_t (by rw [if_neg c1])]
    by_cases c3 : (qx bs s.1.1 = 17 ∨ isGv (qx bs s.1.1) = true)
    · rw [wp_ite_f (by rw [wv_0]; exact fun z => z c3)]
      exact p91 c1 (fun z => z.1 c3)
    rw [wp_ite_t (by rw [wv_0]; exact c3), t1.2.2.2.1]
    by_cases c4 : qk bs s.1.1 = 4
    · rw [wp_ite_t (by rw [c4]; rfl)]
      exact p91 c1 (fun z => z.2.1 c4)
    rw [wp_ite_f (by rw [show (4 : Int32) = J 4 from rfl, J_eq (by omega) (by omega) (by omega) (by omega)]; omega)]
    by_cases c2 : qs bs s.1.1 = 40
    · rw [wp_ite_f (by rw [if_pos c2]; decide)]
      exact p91 c1 (fun z => z.2.2 c2)
    · rw [wp_ite_t (by rw [if_neg c2])]
      exact A (by rw [est, if_pos (Or.inl ⟨c1, Or.inl ⟨c3, c4, c2⟩⟩)]) _ _ _
  obtain ⟨t, st', rfl⟩ : ∃ t st', st = t :: st' := by
    cases st with
    | nil => exact absurd rfl hn
    | cons t st' => exact ⟨t, st', rfl⟩
  have hlen : (t :: st').length = st'.length + 1 := rfl
  have htop := hP.top.1
  have h90 : st'.length < 89 := by omega
  have ht9 : t.1 ≤ 8 := by
    cases st' with
    | nil => have : t.1 = 8 := iB; omega
    | cons u r => have := iB.1; omega
  rw [f_X12_unit, wp_ck_t (GKk102 hG), MRf31 hR, wp_ck_t (GKk125 hG), hP.1, show J ((t :: st').length : Nat) - 1 = J (st'.length : Nat) by rw [hlen, show (1 : Int32) = J 1 from rfl, J_sub]; congr 1; omega, wp_ck_t (by rw [J_toInt (by omega) (by omega), GKl125 hG]; omega), J_clamp (by omega) (by omega), Int.toNat_natCast, htop]
  have k36 : (topR (t :: st') ≤ 3 ∨ 7 ≤ topR (t :: st')) → wp (f_X12_unit_31 (f_X12_unit_36 Γ) Γ M 102) (YR b bs M x) := fun hb1 => by
    rw [f_X12_unit_31, f_X12_unit_36, wp_ite_f (by decide), wp_ck_t (GKk102 hG), wp_bind, y_isWordA hG t1 (k := 12) (by decide) kwB_at.2.2.2.2.2.2.2.2.2, wp_some]
    by_cases c : qx bs s.1.1 = (12 : Nat)
    · rw [if_pos c, wp_ite_f (by decide)]
      have : nt := by rw [← hnt]; exact ⟨hb1, c⟩
      rw [if_pos this] at p56; exact p56
    · rw [if_neg c, wp_ite_t rfl, f_X12_unit_55]
      have : ¬ nt := by rw [← hnt]; exact fun z => c z.2
      rw [if_neg this] at p56; exact p56
  by_cases d1 : 3 < t.1
  · rw [wp_ite_t (by rw [show (3 : Int32) = J 3 from rfl, J_lt (by omega) (by omega) (by omega) (by omega)]; omega)]
    by_cases d2 : t.1 < 7
    · rw [wp_ite_t (by rw [show (7 : Int32) = J 7 from rfl, J_lt (by omega) (by omega) (by omega) (by omega)]; omega), f_X12_unit_36, wp_ite_t rfl, f_X12_unit_55]
      have : ¬ nt := by rw [← hnt]; exact fun z => by have : t.1 ≤ 3 ∨ 7 ≤ t.1 := z.1; omega
      rw [if_neg this] at p56; exact p56
    · rw [wp_ite_f (by rw [show (7 : Int32) = J 7 from rfl, J_lt (by omega) (by omega) (by omega) (by omega)]; omega)]
      exact k36 (Or.inr (by show 7 ≤ t.1; omega))
  · rw [wp_ite_f (by rw [show (3 : Int32) = J 3 from rfl, J_lt (by omega) (by omega) (by omega) (by omega)]; omega)]
    exact k36 (Or.inl (by show t.1 ≤ 3; omega))
end
