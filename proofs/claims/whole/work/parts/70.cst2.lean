section
variable {Γ : rhG} {M : rhM} {L : Ar} {s : Nat}
theorem c_last12 (hs : SS Γ M s) {R H : Nat} (hR : R ≤ 5) (hH : H ≤ 8) (wL : WA R H L) (hA : SA M s R L) {r E : Nat} (hr : r < R) (hE : M.1 (s + 2) r = J E) (hE2 : E ≤ 12) : ∀ (x : List Nat) (n p : Nat) (c : List Nat), (∀ i, i < x.length → (dgs L).getD (p + i) 0 = x.getD i 0) → (∀ h, h ∈ x → h < 8) → p + x.length = E → x.length < n →
    f_X7_last_12 Γ M n s (J r) (J (ss c)) (J p) = some (J (ss (c ++ x))) := by
  obtain ⟨k0, ⟨k1, n1⟩, ⟨k2, n2⟩, ⟨k3, n3⟩, -, -, -, f2, f3, f4, -, -, -⟩ := hs
  have hl := dgs_len wL
  have h0 := hA.1
  unfold wn at h0
  intro x
  induction x with
  | nil =>
    intro n p c hx h8 he hn
    obtain ⟨n, rfl⟩ : ∃ k, n = k + 1 := ⟨n - 1, by simp only [List.length_nil] at hn; omega⟩
    simp only [List.length_nil] at he
    apply wp_eq
    rw [f_X7_last_12]
    simp (disch := omega) only [wp_some, wp_ck_T, wp_ck_t, wp_bind, wp_ite_t, wp_ite_f, J_lit, J_neg, J_add, J_sub, J_mul, J_lt, J_le, J_eq, J_toInt, J_clamp, J_suc, si_1, si_2, sl_1, sl_2, sl_3, Int.toNat_natCast, Int.reduceToNat, Nat.add_sub_cancel, Int.toNat_add, Int.toNat_mul, Int.toNat_sub'', true_and, and_true, and_self, if_true, if_false, not_true, not_false_eq_true, k0, k2, n2, f3, hE]
    simp
  | cons y x ih =>
    intro n p c hx h8 he hn
    rw [List.length_cons] at he hn
    obtain ⟨n, rfl⟩ : ∃ k, n = k + 1 := ⟨n - 1, by omega⟩
    have hy := hx 0 (by rw [List.length_cons]; omega)
    rw [Nat.add_zero, List.getD_cons_zero] at hy
    have y8 := h8 y List.mem_cons_self
    have hd := c_digit (Γ := Γ) (M := M) (dgs_16 wL hH) (by omega) (i := p) (by omega)
    rw [hy] at hd
    have hi := ih n (p + 1) (c ++ [y]) (fun i hi => by
      have := hx (i + 1) (by rw [List.length_cons]; omega)
      rw [List.getD_cons_succ] at this
      rw [show p + 1 + i = p + (i + 1) by omega]; exact this) (fun h hh => h8 h (List.mem_cons_of_mem _ hh)) (by omega) (by omega)
    rw [ss_snoc] at hi
    have e1 := J_1sh y (by omega)
    rw [show (1 : Int32) = J 1 from rfl, show (31 : Int32) = J 31 from rfl] at e1
    apply wp_eq
    rw [f_X7_last_12]
    simp (disch := omega) only [wp_some, wp_ck_T, wp_ck_t, wp_bind, wp_ite_t, wp_ite_f, J_lit, J_neg, J_add, J_sub, J_mul, J_lt, J_le, J_eq, J_toInt, J_clamp, J_suc, si_1, si_2, sl_1, sl_2, sl_3, Int.toNat_natCast, Int.reduceToNat, Nat.add_sub_cancel, Int.toNat_add, Int.toNat_mul, Int.toNat_sub'', true_and, and_true, and_self, if_true, if_false, not_true, not_false_eq_true, k0, k2, n2, f3, hE, h0, hd, e1, J_or, hi]
    simp
theorem sg_dgs {f m i : Nat} (hm : m ≤ (rl L f).length) (hi : i < (sg L f m).length) : (dgs L).getD (cum L (f + 1) + f - m + i) 0 = (sg L f m).getD i 0 := by
  rw [sg_len hm] at hi
  have h1 := cum_succ L f
  have := dgs_get (L := L) (r := f) (i := (rl L f).length - m + i) (by omega)
  rw [sg, gd_drop, ← this]
  congr 1; omega
theorem c_last (hs : SS Γ M s) {R H : Nat} (hR : R ≤ 5) (hH : H ≤ 8) (wL : WA R H L) (hA : SA M s R L) {f m : Nat} (hf : f < R) (hm : m ≤ (rl L f).length) : f_X7_last Γ M s (J f) (J m) = some (J (ss (sg L f m))) := by
  have hs0 := hs
  obtain ⟨k0, ⟨k1, n1⟩, ⟨k2, n2⟩, ⟨k3, n3⟩, -, -, -, f2, f3, f4, -, -, -⟩ := hs
  have h := hA.2.2 f hf
  have hc := cum_succ L f
  have hle := wL.le (r := f + 1) (by omega)
  have := c_last12 hs0 hR hH wL hA hf h.2.1 (by omega) (sg L f m) rhFU (cum L (f + 1) + f - m) [] (fun i hi => sg_dgs hm hi) (fun h hh => by have := wL.lt.mp (rl_sub (List.mem_of_mem_drop hh)); omega) (by rw [sg_len hm]; omega) (by rw [sg_len hm]; have := FU_big; omega)
  have e : ((cum L (f + 1) + f : Nat) : Int) - m = ((cum L (f + 1) + f - m : Nat) : Int) := by omega
  apply wp_eq
  rw [f_X7_last]
  rw [show ss [] = 0 from rfl] at this
  have e0 : J ((0 : Nat) : Int) = J 0 := rfl
  rw [e0] at this
  simp (disch := omega) only [wp_some, wp_ck_T, wp_ck_t, wp_bind, wp_ite_t, wp_ite_f, J_lit, J_neg, J_add, J_sub, J_mul, J_lt, J_le, J_eq, J_toInt, J_clamp, J_suc, si_1, si_2, sl_1, sl_2, sl_3, Int.toNat_natCast, Int.reduceToNat, Nat.add_sub_cancel, Int.toNat_add, Int.toNat_mul, Int.toNat_sub'', true_and, and_true, and_self, if_true, if_false, not_true, not_false_eq_true, k0, k2, n2, f3, h.2.1, e, this, List.nil_append]
theorem c_ones {n : Nat} (h : n < 16) : f_X7_ones Γ M (J n) = some (jl (2 ^ (4 * n) - 1)) := by
  rw [f_X7_ones, J_lit, J_mul, show ((4 : Int) * n) = ((4 * n : Nat) : Int) by omega, show (1 : Int64) = jl 1 from rfl, jl_shl 1 (by omega), Nat.shiftLeft_eq, Nat.one_mul]
  exact congrArg some (jl_pred (Nat.pow_pos (by decide)))
theorem c_swapped (k0 : Γ.2.2.1 s = 8) {P A B S : List Nat} (h16 : ∀ x, x ∈ P ++ (A ++ (B ++ S)) → x < 16) (hl : (P ++ (A ++ (B ++ S))).length ≤ 15) (h0 : M.2.1 s 0 = jl (dg (P ++ (A ++ (B ++ S))))) {a b c : Int} (ha : a = P.length) (hb : b = P.length + A.length) (hc : c = P.length + A.length + B.length) :
    f_X7_swapped Γ M s (J a) (J b) (J c) = some (jl (dg (P ++ (B ++ (A ++ S))))) := by
  have hl2 := hl
  simp only [List.length_append] at hl2
  have h1 := dg_lt h16
  have h2 : dg (P ++ (A ++ (B ++ S))) < 2 ^ 64 := Nat.lt_of_lt_of_le h1 (Nat.pow_le_pow_right (by decide) (by omega))
  subst ha hb hc
  rw [f_X7_swapped, rhck_t k0, J_sub, J_sub, J_sub, show ((P.length : Int) + A.length - P.length) = ((A.length : Nat) : Int) by omega, show ((P.length : Int) + A.length + B.length - (P.length + A.length)) = ((B.length : Nat) : Int) by omega, show ((P.length : Int) + A.length + B.length - P.length) = ((A.length + B.length : Nat) : Int) by omega,
    c_ones (by omega), c_ones (by omega), c_ones (by omega)]
  simp only [Option.bind_some, h0]
  rw [J_lit, J_mul, J_mul, J_add, J_sub, J_mul, show ((4 : Int) * P.length) = ((4 * P.length : Nat) : Int) by omega, show ((4 : Int) * (P.length + A.length)) = ((4 * (P.length + A.length) : Nat) : Int) by omega,
    show ((4 : Int) * (P.length + (P.length + A.length + B.length) - (P.length + A.length))) = ((4 * (P.length + B.length) : Nat) : Int) by omega]
  rw [jl_shr h2 (by omega), jl_shr h2 (by omega), jl_and, jl_and, jl_shl _ (by omega), jl_shl _ (by omega), jl_shl _ (by omega), jl_not, jl_and, jl_or, jl_or, dg_swap h16 hl]
theorem c_after (hs : SS Γ M s) {R H : Nat} (hR : R ≤ 5) (hH : H ≤ 8) (wL : WA R H L) (hA : SA M s R L) {f m t : Nat} (hf : f < R) (ht : t < R) (hft : f ≠ t) (hm : m ≤ (rl L f).length) : f_X7_after Γ M s (J f) (J m) (J t) = some (jl (wn (mv L f m t))) := by
  obtain ⟨k0, ⟨k1, n1⟩, ⟨k2, n2⟩, ⟨k3, n3⟩, -, -, -, f2, f3, f4, -, -, -⟩ := hs
  have hfl : f < L.length := by rw [wL.1]; exact hf
  have htl : t < L.length := by rw [wL.1]; exact ht
  have hx := (hA.2.2 f hf).2.1
  have hy := (hA.2.2 t ht).2.1
  have h0 := hA.1
  have hlen := dgs_len wL
  have h16 := dgs_16 wL hH
  have hsl := sg_len hm
  have c1 := cum_succ L f
  have c2 := wL.le (r := f + 1) (by omega)
  have c3 := wL.le (r := t + 1) (by omega)
  apply wp_eq
  rw [f_X7_after]
  rcases Nat.lt_or_gt_of_ne hft with h | h
  · obtain ⟨P, Q, S, g1, g2, g3, g4⟩ := mv_lt [8] h htl hm
    have hle := cum_mono L (show f + 1 ≤ t + 1 by omega)
    simp only [List.length_singleton, Nat.mul_one] at g3 g4
    have hP : 1 ≤ P.length := by omega
    have d1 : dgs L = P.drop 1 ++ (sg L f m ++ (Q ++ S)) := by rw [dgs, g1, List.drop_append_of_le_length hP]
    have d2 : dgs (mv L f m t) = P.drop 1 ++ (Q ++ (sg L f m ++ S)) := by rw [dgs, g2, List.drop_append_of_le_length hP]
    unfold wn at h0
    rw [d1] at h0 h16 hlen
    have hPl : (P.drop 1).length = P.length - 1 := List.length_drop
    have := c_swapped (Γ := Γ) (M := M) k0 h16 (by omega) h0 (a := ((cum L (f + 1) + f : Nat) : Int) - m) (b := ((cum L (f + 1) + f : Nat) : Int)) (c := ((cum L (t + 1) + t : Nat) : Int)) (by omega) (by omega) (by omega)
    simp (disch := omega) only [wp_some, wp_ck_T, wp_ck_t, wp_bind, wp_ite_t, wp_ite_f, J_lit, J_neg, J_add, J_sub, J_mul, J_lt, J_le, J_eq, J_toInt, J_clamp, J_suc, si_1, si_2, sl_1, sl_2, sl_3, Int.toNat_natCast, Int.reduceToNat, Nat.add_sub_cancel, Int.toNat_add, Int.toNat_mul, Int.toNat_sub'', true_and, and_true, and_self, if_true, if_false, not_true, not_false_eq_true, k0, k2, n2, f3, hx, hy, this]
    rw [wn, d2]
  · obtain ⟨P, Q, S, g1, g2, g3, g4⟩ := mv_gt [8] h hfl hm
    have hle := cum_mono L (show t + 1 ≤ f + 1 by omega)
    simp only [List.length_singleton, Nat.mul_one] at g3 g4
    have hP : 1 ≤ P.length := by omega
    have d1 : dgs L = P.drop 1 ++ (Q ++ (sg L f m ++ S)) := by rw [dgs, g1, List.drop_append_of_le_length hP]
    have d2 : dgs (mv L f m t) = P.drop 1 ++ (sg L f m ++ (Q ++ S)) := by rw [dgs, g2, List.drop_append_of_le_length hP]
    unfold wn at h0
    rw [d1] at h0 h16 hlen
    have hPl : (P.drop 1).length = P.length - 1 := List.length_drop
    have := c_swapped (Γ := Γ) (M := M) k0 h16 (by omega) h0 (a := ((cum L (t + 1) + t : Nat) : Int)) (b := ((cum L (f + 1) + f : Nat) : Int) - m) (c := ((cum L (f + 1) + f : Nat) : Int)) (by omega) (by omega) (by omega)
    simp (disch := omega) only [wp_some, wp_ck_T, wp_ck_t, wp_bind, wp_ite_t, wp_ite_f, J_lit, J_neg, J_add, J_sub, J_mul, J_lt, J_le, J_eq, J_toInt, J_clamp, J_suc, si_1, si_2, sl_1, sl_2, sl_3, Int.toNat_natCast, Int.reduceToNat, Nat.add_sub_cancel, Int.toNat_add, Int.toNat_mul, Int.toNat_sub'', true_and, and_true, and_self, if_true, if_false, not_true, not_false_eq_true, k0, k2, n2, f3, hx, hy, this]
    rw [wn, d2]
end
