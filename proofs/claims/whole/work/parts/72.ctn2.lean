theorem sm_cl_le {T : Tn} (hw : TWf T) (S : Nat) : sm (tl T) (cl (tH T) S) ≤ 72 ∧ sm (tw T) (cl (tH T) S) ≤ 792 := by
  have h0 : (cl (tH T) S).length ≤ tH T := by
    have := List.length_filter_le (fun h => S.testBit h) (List.range (tH T))
    rw [List.length_range] at this; exact this
  have hh := hw.2.1
  have h5 := hw.2.2.2.2.2.1
  have h2 := sm_le (g := tl T) (c := 9) (l := cl (tH T) S) (fun x hx => (h5 x (cl_mem.mp hx).1).2.1)
  have h3 := sm_le (g := tw T) (c := 99) (l := cl (tH T) S) (fun x hx => (h5 x (cl_mem.mp hx).1).2.2.2.1)
  omega
theorem pow_le {a b : Nat} (h : a ≤ b) : 2 ^ a ≤ 2 ^ b := Nat.pow_le_pow_right (by decide) h
section
variable {Γ : rhG} {M : rhM} {T : Tn} {L : Ar} {t : Nat}
theorem c_roomBeside (hs : TSh Γ M t) (hT : TC M t T) (hw : TWf T) {r S : Nat} (hr : r < tR T) (hS : S < 2 ^ tH T) : f_X9_roomBeside Γ M t (J r) (J S) = some (J (tL T r - sm (tl T) (cl (tH T) S))) := by
  obtain ⟨k0, ⟨k1, n1⟩, ⟨k2, n2⟩, -, -, -, -, -, -, -, -, ⟨f6, f7, -⟩, -⟩ := hs
  have h1 := hT.2.2.2.2.2.1 r hr
  have h2 := hT.2.2.2.2.2.2.1 S hS
  have w1 := hw.1
  have w2 := pow_le hw.2.1
  apply wp_eq
  rw [f_X9_roomBeside]
  simp (disch := omega) only [wp_some, wp_ck_T, wp_ck_t, wp_bind, wp_ite_t, wp_ite_f, J_lit, J_neg, J_add, J_sub, J_mul, J_lt, J_le, J_eq, J_toInt, J_clamp, J_suc, si_1, si_2, sl_1, sl_2, sl_3, Int.toNat_natCast, Int.reduceToNat, Nat.add_sub_cancel, Int.toNat_add, Int.toNat_mul, Int.toNat_sub'', true_and, and_true, and_self, if_true, if_false, not_true, not_false_eq_true, k0, k1, n1, k2, n2, f6, f7, h1, h2]
theorem c_comesTo (hs : TSh Γ M t) (hT : TC M t T) (hw : TWf T) {f S to : Nat} (hS : S < 2 ^ tH T) (l' : List Nat) :
    wp (f_X1_comesTo Γ M (t + 6) (J f) (J S) (J to) (J (tL T to - sm (tl T) l')) (J (sm (tw T) (cl (tH T) S))) (J (sm (tl T) (cl (tH T) S)))) (fun r => r.1 = comL T f (cl (tH T) S) to l' ∧ Fr [t + 9, t + 10] M r.2) := by
  obtain ⟨-, -, -, -, -, -, k6, ⟨k7, n7⟩, ⟨k8, n8⟩, ⟨k9, n9⟩, ⟨k10, n10⟩, -, r2, r3, r4, r5⟩ := hs
  have h2 := hT.2.2.2.2.2.2.2.2.2.2.1
  have h3 := hT.2.2.2.2.2.2.2.2.2.2.2.1
  have h4 := hT.2.2.2.2.2.2.2.2.2.2.2.2
  have w2 := pow_le hw.2.1
  have wc := hw.2.2.2.2.2.2.2.2.2.1
  rw [f_X1_comesTo]
  by_cases e : tC T = []
  · rw [e] at h2
    simp only [List.length_nil] at h2
    simp (disch := omega) only [wp_some, wp_ck_T, wp_ck_t, wp_bind, wp_ite_t, wp_ite_f, J_lit, J_neg, J_add, J_sub, J_mul, J_lt, J_le, J_eq, J_toInt, J_clamp, J_suc, si_1, si_2, sl_1, sl_2, sl_3, Int.toNat_natCast, Int.reduceToNat, Nat.add_sub_cancel, Int.toNat_add, Int.toNat_mul, Int.toNat_sub'', true_and, and_true, and_self, if_true, if_false, not_true, not_false_eq_true, k6, h2]
    exact ⟨by unfold comL; rw [e]; rfl, Fr.refl _ _⟩
  · have hl : 0 < (tC T).length := List.length_pos_iff.mpr e
    have hpc := fun M => pc_ok' (Γ := Γ) (M := M) (S := S) (by omega)
    rw [cl_8 hw.2.1 hS] at hpc
    have hd := hw.2.2.2.2.2.2.2.1
    have hc := hw.2.2.2.2.2.2.2.2.1
    simp (disch := omega) only [wp_some, wp_ck_T, wp_ck_t, wp_bind, wp_ite_t, wp_ite_f, J_lit, J_neg, J_add, J_sub, J_mul, J_lt, J_le, J_eq, J_toInt, J_clamp, J_suc, si_1, si_2, sl_1, sl_2, sl_3, Int.toNat_natCast, Int.reduceToNat, Nat.add_sub_cancel, Int.toNat_add, Int.toNat_mul, Int.toNat_sub'', true_and, and_true, and_self, if_true, if_false, not_true, not_false_eq_true, k6, k10, n10, r5, h2, hpc]
    have fin : ∀ M1 : rhM, M1 = rhsi (rhsi (rhsi (rhsi (rhsi (rhsi M (t + 10) 14 (J f)) (t + 10) 15 (J to)) (t + 10) 16 (J (tL T to - sm (tl T) l'))) (t + 10) 13 (J (cl (tH T) S).length)) (t + 10) 7 (J (sm (tw T) (cl (tH T) S)))) (t + 10) 6 (J (sm (tl T) (cl (tH T) S))) →
        wp (f_X1_comesTo_69 Γ rhFU M1 (t + 6) (J S) (J ((0 : Nat) : Int)) (J ((0 : Nat) : Int))) (fun r => r.1 = comL T f (cl (tH T) S) to l' ∧ Fr [t + 9, t + 10] M r.2) := by
      intro M1 hM1
      have hF : Fr [t + 10] M M1 := by
        rw [hM1]; exact ((((((Fr.refl _ _).si (by simp) _ _).si (by simp) _ _).si (by simp) _ _).si (by simp) _ _).si (by simp) _ _).si (by simp) _ _
      refine (c_comes69 (q := t + 6) (g := givL T f (cl (tH T) S) to l') (N := (tC T).length) (by omega) (by omega) k6 k7 n7 k8 n8 k9 n9 k10 n10 (tC T) rhFU M1 0 [] (by rw [hF.1]; exact r2) (by rw [hF.1]; exact r3) (by rw [hF.1]; exact r4) (by rw [hF.1]; exact r5) (by rw [hF.i (by simp)]; exact h2) (fun j hj => ?_) trivial (hd.resolve_left e) (by simp) (by rw [hF.i (by simp)]; exact h3) (by rw [hF.i (by simp)]; exact h4) hc (by omega) (by have := FU_big; omega)).mono (fun r hr => ⟨?_, (hF.sub (by simp)).trans (hr.2.sub (by simp))⟩)
      · rw [hM1]
        have hj' : j = 6 ∨ j = 7 ∨ j = 13 ∨ j = 14 ∨ j = 15 ∨ j = 16 := by omega
        rcases hj' with rfl | rfl | rfl | rfl | rfl | rfl <;> simp [rhsi, givL]
      · rw [hr.1, cl_8 hw.2.1 hS]; rfl
    exact fin _ rfl
theorem c_asks (hs : TSh Γ M t) (hT : TC M t T) (hw : TWf T) {f S to S' : Nat} (hS : S < 2 ^ tH T) (hS' : S' < 2 ^ tH T) (hto : to < tR T) :
    wp (f_X9_asks Γ M t (J f) (J S) (J to) (J S')) (fun r => r.1 = comL T f (cl (tH T) S) to (cl (tH T) S') ∧ Fr [t + 9, t + 10] M r.2) := by
  have hRB := c_roomBeside hs hT hw hto hS'
  have hC := c_comesTo hs hT hw (f := f) (to := to) hS (cl (tH T) S')
  obtain ⟨k0, ⟨k1, n1⟩, ⟨k2, n2⟩, ⟨k3, n3⟩, -, -, k6, -, -, -, -, ⟨f6, f7, f8, -, -, f11⟩, -⟩ := hs
  have h2 := hT.2.2.2.2.2.2.1 S hS
  have h3 := hT.2.2.2.2.2.2.2.1 S hS
  have w2 := pow_le hw.2.1
  rw [f_X9_asks]
  simp (disch := omega) only [wp_some, wp_ck_T, wp_ck_t, wp_bind, wp_ite_t, wp_ite_f, J_lit, J_neg, J_add, J_sub, J_mul, J_lt, J_le, J_eq, J_toInt, J_clamp, J_suc, si_1, si_2, sl_1, sl_2, sl_3, Int.toNat_natCast, Int.reduceToNat, Nat.add_sub_cancel, Int.toNat_add, Int.toNat_mul, Int.toNat_sub'', true_and, and_true, and_self, if_true, if_false, not_true, not_false_eq_true, k0, k2, n2, k3, n3, k6, f7, f8, f11, hRB, h2, h3]
  exact hC
theorem c_allows (hs : TSh Γ M t) (hT : TC M t T) (hw : TWf T) {f S to S' : Nat} (hS : S < 2 ^ tH T) (hS' : S' < 2 ^ tH T) (hto : to < tR T) :
    wp (f_X9_allows Γ M t (J f) (J S) (J to) (J S')) (fun r => r.1 = bi (alw T f (cl (tH T) S) to (cl (tH T) S')) ∧ Fr [t + 9, t + 10] M r.2) := by
  have hRB := c_roomBeside hs hT hw hto hS'
  have hC := c_comesTo hs hT hw (f := f) (to := to) hS (cl (tH T) S')
  obtain ⟨k0, ⟨k1, n1⟩, ⟨k2, n2⟩, ⟨k3, n3⟩, -, -, k6, -, -, -, -, ⟨f6, f7, f8, -, -, f11⟩, -⟩ := hs
  have h2 := hT.2.2.2.2.2.2.1 S hS
  have h3 := hT.2.2.2.2.2.2.2.1 S hS
  have hn := hT.2.2.1
  have hd := hT.2.2.2.1
  have w2 := pow_le hw.2.1
  have b1 := sm_cl_le hw S
  have b2 := sm_cl_le hw S'
  have b3 := hw.2.2.2.2.1 to hto
  have b5 := hw.2.2.1
  have b6 := hw.2.2.2.1
  rw [f_X9_allows]
  by_cases c1 : tN T < sm (tl T) (cl (tH T) S)
  · rw [bi_f (by unfold alw; omega)]
    simp (disch := omega) only [wp_some, wp_ck_T, wp_ck_t, wp_bind, wp_ite_t, wp_ite_f, J_lit, J_neg, J_add, J_sub, J_mul, J_lt, J_le, J_eq, J_toInt, J_clamp, J_suc, si_1, si_2, sl_1, sl_2, sl_3, Int.toNat_natCast, Int.reduceToNat, Nat.add_sub_cancel, Int.toNat_add, Int.toNat_mul, Int.toNat_sub'', true_and, and_true, and_self, if_true, if_false, not_true, not_false_eq_true, k0, k2, n2, k3, n3, k6, f7, f8, f11, hRB, h2, h3, hn, hd]
    exact Fr.refl _ _
  by_cases c2 : tD T < sm (tw T) (cl (tH T) S)
  · rw [bi_f (by unfold alw; omega)]
    simp (disch := omega) only [wp_some, wp_ck_T, wp_ck_t, wp_bind, wp_ite_t, wp_ite_f, J_lit, J_neg, J_add, J_sub, J_mul, J_lt, J_le, J_eq, J_toInt, J_clamp, J_suc, si_1, si_2, sl_1, sl_2, sl_3, Int.toNat_natCast, Int.reduceToNat, Nat.add_sub_cancel, Int.toNat_add, Int.toNat_mul, Int.toNat_sub'', true_and, and_true, and_self, if_true, if_false, not_true, not_false_eq_true, k0, k2, n2, k3, n3, k6, f7, f8, f11, hRB, h2, h3, hn, hd]
    exact Fr.refl _ _
  by_cases c3 : (tL T to : Int) - sm (tl T) (cl (tH T) S') < sm (tl T) (cl (tH T) S)
  · rw [bi_f (by unfold alw; omega)]
    simp (disch := omega) only [wp_some, wp_ck_T, wp_ck_t, wp_bind, wp_ite_t, wp_ite_f, J_lit, J_neg, J_add, J_sub, J_mul, J_lt, J_le, J_eq, J_toInt, J_clamp, J_suc, si_1, si_2, sl_1, sl_2, sl_3, Int.toNat_natCast, Int.reduceToNat, Nat.add_sub_cancel, Int.toNat_add, Int.toNat_mul, Int.toNat_sub'', true_and, and_true, and_self, if_true, if_false, not_true, not_false_eq_true, k0, k2, n2, k3, n3, k6, f7, f8, f11, hRB, h2, h3, hn, hd]
    exact Fr.refl _ _
  simp (disch := omega) only [wp_some, wp_ck_T, wp_ck_t, wp_bind, wp_ite_t, wp_ite_f, J_lit, J_neg, J_add, J_sub, J_mul, J_lt, J_le, J_eq, J_toInt, J_clamp, J_suc, si_1, si_2, sl_1, sl_2, sl_3, Int.toNat_natCast, Int.reduceToNat, Nat.add_sub_cancel, Int.toNat_add, Int.toNat_mul, Int.toNat_sub'', true_and, and_true, and_self, if_true, if_false, not_true, not_false_eq_true, k0, k2, n2, k3, n3, k6, f7, f8, f11, hRB, h2, h3, hn, hd]
  refine hC.mono (fun r hr => ?_)
  rw [hr.1]
  by_cases k4 : comL T f (cl (tH T) S) to (cl (tH T) S') = 0
  · rw [wp_ite_t (show comL T f (cl (tH T) S) to (cl (tH T) S') = J 0 from k4), wp_some]
    exact ⟨(bi_f (fun h => h.2.2.2 k4)).symm, hr.2⟩
  · rw [wp_ite_f (show ¬ comL T f (cl (tH T) S) to (cl (tH T) S') = J 0 from k4), wp_some]
    exact ⟨(bi_t (by unfold alw; exact ⟨by omega, by omega, by omega, k4⟩)).symm, hr.2⟩
/-! the worth of the first rail -/
theorem c_worth8 (hs : TSh Γ M t) (hT : TC M t T) (hw : TWf T) {l : List Nat} (h16 : ∀ x, x ∈ l → x < 16) (hl : l.length ≤ 15) : ∀ (x : List Nat) (y n p : Nat) (acc : Int), (∀ i, i < x.length → l.getD (p + i) 0 = x.getD i 0) → (∀ h, h ∈ x → h < tH T) → y < tH T → (p + x.length = tH T ∨ (p + x.length < tH T ∧ l.getD (p + x.length) 0 = 8)) → x.length + 1 < n →
    f_X9_worthOf_8 Γ M n t (jl (dg l)) (J acc) (J y) (J p) = some (J (acc + worthL (tW T) (y :: x))) := by
  obtain ⟨k0, -, -, -, ⟨k4, n4⟩, -, -, -, -, -, -, ⟨-, -, -, f9, -⟩, -⟩ := hs
  have hH := hT.2.1
  have hW := hT.2.2.2.2.2.2.2.2.1
  have w2 := hw.2.1
  intro x
  induction x with
  | nil =>
    intro y n p acc hx hm hy he hn
    obtain ⟨n, rfl⟩ : ∃ k, n = k + 1 := ⟨n - 1, by omega⟩
    apply wp_eq
    rw [f_X9_worthOf_8]
    simp only [List.length_nil, Nat.add_zero] at he
    rcases he with he | ⟨he, he2⟩
    · simp (disch := omega) only [wp_some, wp_ck_T, wp_ck_t, wp_bind, wp_ite_t, wp_ite_f, J_lit, J_neg, J_add, J_sub, J_mul, J_lt, J_le, J_eq, J_toInt, J_clamp, J_suc, si_1, si_2, sl_1, sl_2, sl_3, Int.toNat_natCast, Int.reduceToNat, Nat.add_sub_cancel, Int.toNat_add, Int.toNat_mul, Int.toNat_sub'', true_and, and_true, and_self, if_true, if_false, not_true, not_false_eq_true, k0, hH, worthL]
      simp
    · have hd := c_digit (Γ := Γ) (M := M) h16 hl (i := p) (by omega)
      rw [he2] at hd
      simp (disch := omega) only [wp_some, wp_ck_T, wp_ck_t, wp_bind, wp_ite_t, wp_ite_f, J_lit, J_neg, J_add, J_sub, J_mul, J_lt, J_le, J_eq, J_toInt, J_clamp, J_suc, si_1, si_2, sl_1, sl_2, sl_3, Int.toNat_natCast, Int.reduceToNat, Nat.add_sub_cancel, Int.toNat_add, Int.toNat_mul, Int.toNat_sub'', true_and, and_true, and_self, if_true, if_false, not_true, not_false_eq_true, k0, hH, hd, worthL, show ((8 : Nat) : Int) = 8 from rfl]
      simp
  | cons z x ih =>
    intro y n p acc hx hm hy he hn
    rw [List.length_cons] at he hn
    obtain ⟨n, rfl⟩ : ∃ k, n = k + 1 := ⟨n - 1, by omega⟩
    have hz := hx 0 (by rw [List.length_cons]; omega)
    rw [Nat.add_zero, List.getD_cons_zero] at hz
    have z8 := hm z List.mem_cons_self
    have hd := c_digit (Γ := Γ) (M := M) h16 hl (i := p) (by omega)
    rw [hz] at hd
    have hi := ih z n (p + 1) (acc + tW T y z) (fun i hi => by
      have := hx (i + 1) (by rw [List.length_cons]; omega)
      rw [List.getD_cons_succ] at this
      rw [show p + 1 + i = p + (i + 1) by omega]; exact this) (fun h hh => hm h (List.mem_cons_of_mem _ hh)) z8 (by rw [show p + 1 + x.length = p + (x.length + 1) by omega]; exact he) (by omega)
    have e1 := hW y z hy z8
    rw [Nat.mul_comm] at e1
    apply wp_eq
    rw [f_X9_worthOf_8]
    simp (disch := omega) only [wp_some, wp_ck_T, wp_ck_t, wp_bind, wp_ite_t, wp_ite_f, J_lit, J_neg, J_add, J_sub, J_mul, J_lt, J_le, J_eq, J_toInt, J_clamp, J_suc, si_1, si_2, sl_1, sl_2, sl_3, Int.toNat_natCast, Int.reduceToNat, Nat.add_sub_cancel, Int.toNat_add, Int.toNat_mul, Int.toNat_sub'', true_and, and_true, and_self, if_true, if_false, not_true, not_false_eq_true, f_X9_worthOf_57, k0, k4, n4, f9, hH, hd, e1, hi, worthL]
    congr 1; omega
theorem c_worthOf (hs : TSh Γ M t) (hT : TC M t T) (hw : TWf T) (wL : WA (tR T) (tH T) L) (hRH : 0 < tH T → 0 < tR T) : f_X9_worthOf Γ M t (jl (wn L)) = some (J (worth T L)) := by
  have hs0 := hs
  obtain ⟨k0, -, -, -, ⟨k4, n4⟩, -, -, -, -, -, -, ⟨-, -, -, f9, -⟩, -⟩ := hs
  have hH := hT.2.1
  have w1 := hw.1
  have w2 := hw.2.1
  have h16 := dgs_16 wL w2
  have hl := dgs_len wL
  have hFU := FU_big
  obtain ⟨N, hN⟩ : ∃ N, rhFU = N + 1 := ⟨rhFU - 1, by omega⟩
  rw [f_X9_worthOf]
  unfold worth
  by_cases h0 : tH T = 0
  · have : rl L 0 = [] := by
      by_cases hr : 0 < tR T
      · have := wL.rl_len hr
        exact List.length_eq_zero_iff.mp (by omega)
      · have := wL.1
        rw [List.length_eq_zero_iff.mp (show L.length = 0 by omega), rl_nil]
    rw [this, hN]
    apply wp_eq
    rw [f_X9_worthOf_8]
    simp (disch := omega) only [wp_some, wp_ck_T, wp_ck_t, wp_bind, wp_ite_t, wp_ite_f, J_lit, J_neg, J_add, J_sub, J_mul, J_lt, J_le, J_eq, J_toInt, J_clamp, J_suc, si_1, si_2, sl_1, sl_2, sl_3, Int.toNat_natCast, Int.reduceToNat, Nat.add_sub_cancel, Int.toNat_add, Int.toNat_mul, Int.toNat_sub'', true_and, and_true, and_self, if_true, if_false, not_true, not_false_eq_true, k0, hH, worthL]
  · have hr := hRH (by omega)
    have hlen := wL.rl_len hr
    have hm : ∀ h, h ∈ rl L 0 → h < tH T := fun h hh => wL.lt.mp (rl_sub hh)
    have hg : ∀ i, i < (rl L 0).length → (dgs L).getD i 0 = (rl L 0).getD i 0 := fun i hi => by
      have := dgs_get (L := L) (r := 0) hi
      rw [show cum L 0 + 0 + i = i by simp [cum]] at this; exact this
    have hend : (rl L 0).length = tH T ∨ ((rl L 0).length < tH T ∧ (dgs L).getD (rl L 0).length 0 = 8) := by
      by_cases e : (rl L 0).length = tH T
      · exact Or.inl e
      · right
        refine ⟨by omega, ?_⟩
        have hR2 : 1 < tR T := by
          have h1 := wL.cumR
          have h2 : tR T = 1 ∨ 1 < tR T := by omega
          rcases h2 with h2 | h2
          · rw [h2, cum_succ] at h1; simp [cum] at h1; omega
          · exact h2
        have := fl_sep L 1 (by rw [wL.1]; exact hR2)
        rw [cum_succ] at this
        rw [dgs, gd_drop]
        refine Eq.trans ?_ this
        congr 1; simp only [cum]; omega
    unfold wn
    cases hq : rl L 0 with
    | nil =>
      rw [hq] at hend
      simp only [List.length_nil] at hend
      have hd := c_digit (Γ := Γ) (M := M) h16 (by omega) (i := 0) (by omega)
      rw [(hend.resolve_left (by omega)).2] at hd
      rw [show J ((0 : Nat) : Int) = J 0 from rfl] at hd
      rw [hN]
      apply wp_eq
      rw [f_X9_worthOf_8]
      simp (disch := omega) only [wp_some, wp_ck_T, wp_ck_t, wp_bind, wp_ite_t, wp_ite_f, J_lit, J_neg, J_add, J_sub, J_mul, J_lt, J_le, J_eq, J_toInt, J_clamp, J_suc, si_1, si_2, sl_1, sl_2, sl_3, Int.toNat_natCast, Int.reduceToNat, Nat.add_sub_cancel, Int.toNat_add, Int.toNat_mul, Int.toNat_sub'', true_and, and_true, and_self, if_true, if_false, not_true, not_false_eq_true, k0, hH, hd, worthL, show ((8 : Nat) : Int) = 8 from rfl]
    | cons y x =>
      rw [hq] at hend hg hm hlen
      rw [List.length_cons] at hend hlen
      have y8 := hm y List.mem_cons_self
      have hz := hg 0 (by rw [List.length_cons]; omega)
      rw [List.getD_cons_zero] at hz
      have hd := c_digit (Γ := Γ) (M := M) h16 (by omega) (i := 0) (by omega)
      rw [hz] at hd
      rw [show J ((0 : Nat) : Int) = J 0 from rfl] at hd
      have := c_worth8 hs0 hT hw h16 (by omega) x y N 1 0 (fun i hi => by
        have := hg (i + 1) (by rw [List.length_cons]; omega)
        rw [List.getD_cons_succ] at this
        rw [Nat.add_comm 1 i]; exact this) (fun h hh => hm h (List.mem_cons_of_mem _ hh)) y8 (by rw [Nat.add_comm 1]; exact hend) (by omega)
      rw [hN]
      apply wp_eq
      rw [f_X9_worthOf_8]
      rw [show J ((1 : Nat) : Int) = J (0 + 1) from rfl] at this
      simp (disch := omega) only [wp_some, wp_ck_T, wp_ck_t, wp_bind, wp_ite_t, wp_ite_f, J_lit, J_neg, J_add, J_sub, J_mul, J_lt, J_le, J_eq, J_toInt, J_clamp, J_suc, si_1, si_2, sl_1, sl_2, sl_3, Int.toNat_natCast, Int.reduceToNat, Nat.add_sub_cancel, Int.toNat_add, Int.toNat_mul, Int.toNat_sub'', true_and, and_true, and_self, if_true, if_false, not_true, not_false_eq_true, f_X9_worthOf_57, k0, hH, hd]
      rw [this]
      exact ⟨_, rfl, by simp⟩
end
