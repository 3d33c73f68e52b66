section
variable {Γ : rhG} {M : rhM} {v : Int32}
theorem c_fillI10 {a n0 b : Nat} (hk : Γ.2.2.1 a = 15) (hl : Γ.2.2.2 a = n0) (hn0 : n0 < 2147483648) (hb : b ≤ n0) (Q : rhM → Prop) : ∀ (d n : Nat) (M : rhM) (k : Nat), k + d = b → d < n →
    (∀ M', Fr [a] M M' → (∀ i, M'.1 a i = if k ≤ i ∧ i < b then v else M.1 a i) → Q M') → wp (f_J7_fill_fda19_10 Γ n M a (J b) v (J k)) Q := by
  intro d
  induction d with
  | zero =>
    intro n M k hk2 hn hQ
    obtain ⟨n, rfl⟩ : ∃ k, n = k + 1 := ⟨n - 1, by omega⟩
    rw [f_J7_fill_fda19_10]
    simp (disch := omega) only [wp_some, wp_ck_T, wp_ck_t, wp_bind, wp_ite_t, wp_ite_f, J_lit, J_neg, J_add, J_sub, J_mul, J_lt, J_le, J_eq, J_toInt, J_clamp, J_suc, si_1, si_2, sl_1, sl_2, sl_3, Int.toNat_natCast, Int.reduceToNat, Nat.add_sub_cancel, Int.toNat_add, Int.toNat_mul, Int.toNat_sub'', true_and, and_true, and_self, if_true, if_false, not_true, not_false_eq_true]
    exact hQ M (Fr.refl _ _) (fun i => by rw [if_neg (by omega)])
  | succ d ih =>
    intro n M k hk2 hn hQ
    obtain ⟨n, rfl⟩ : ∃ k, n = k + 1 := ⟨n - 1, by omega⟩
    rw [f_J7_fill_fda19_10]
    simp (disch := omega) only [wp_some, wp_ck_T, wp_ck_t, wp_bind, wp_ite_t, wp_ite_f, J_lit, J_neg, J_add, J_sub, J_mul, J_lt, J_le, J_eq, J_toInt, J_clamp, J_suc, si_1, si_2, sl_1, sl_2, sl_3, Int.toNat_natCast, Int.reduceToNat, Nat.add_sub_cancel, Int.toNat_add, Int.toNat_mul, Int.toNat_sub'', true_and, and_true, and_self, if_true, if_false, not_true, not_false_eq_true, hk, hl]
    have hF : Fr [a] M (rhsi M a k (v)) := (Fr.refl _ _).si (by simp) _ _
    refine ih n _ (k + 1) (by omega) (by omega) (fun M' h1 h2 => hQ M' (hF.trans h1) (fun i => ?_))
    rw [h2, si_1]
    by_cases e : i = k
    · rw [if_neg (by omega), if_pos ⟨rfl, e⟩, if_pos (by omega)]
    · by_cases e2 : k + 1 ≤ i ∧ i < b
      · rw [if_pos e2, if_pos (by omega)]
      · rw [if_neg e2, if_neg (by omega), if_neg (by omega)]
theorem c_rng {n a b : Nat} (h1 : a ≤ b) (h2 : b ≤ n) (hn : n < 2147483648) : f_J7_rangeCheck_23922 Γ M (Int32.ofNat n) (J a) (J b) = some () := by
  rw [show Int32.ofNat n = J n from Int32.ofInt_eq_ofNat.symm]
  have hh : wp (f_J7_rangeCheck_23922 Γ M (J n) (J a) (J b)) (fun _ => True) := by
    rw [f_J7_rangeCheck_23922]
    simp (disch := omega) only [wp_some, wp_ck_T, wp_ck_t, wp_bind, wp_ite_t, wp_ite_f, J_lit, J_neg, J_add, J_sub, J_mul, J_lt, J_le, J_eq, J_toInt, J_clamp, J_suc, si_1, si_2, sl_1, sl_2, sl_3, Int.toNat_natCast, Int.reduceToNat, Nat.add_sub_cancel, Int.toNat_add, Int.toNat_mul, Int.toNat_sub'', true_and, and_true, and_self, if_true, if_false, not_true, not_false_eq_true]
  obtain ⟨x, hx, -⟩ := hh
  exact hx
theorem c_fillI {r n a b : Nat} (hk : Γ.2.2.1 r = 15) (hl : Γ.2.2.2 r = n) (hn : n < 900000000) (h1 : a ≤ b) (h2 : b ≤ n) : wp (f_J7_fill_fda19 Γ M r (J a) (J b) v) (fun M' => Fr [r] M M' ∧ ∀ i, M'.1 r i = if a ≤ i ∧ i < b then v else M.1 r i) := by
  rw [f_J7_fill_fda19, wp_ck_t hk, hl, c_rng h1 h2 (by omega), wp_bind, wp_some]
  exact c_fillI10 hk hl (by omega) h2 _ (b - a) rhFU M a (by omega) (by have := FU_big2; omega) (fun M' x y => ⟨x, y⟩)
theorem c_fillL10 {a n0 b : Nat} {u : Int64} (hk : Γ.2.2.1 a = 16) (hl : Γ.2.2.2 a = n0) (hn0 : n0 < 2147483648) (hb : b ≤ n0) (Q : rhM → Prop) : ∀ (d n : Nat) (M : rhM) (k : Nat), k + d = b → d < n →
    (∀ M', Fr [a] M M' → M'.1 = M.1 → (∀ i, M'.2.1 a i = if k ≤ i ∧ i < b then u else M.2.1 a i) → Q M') → wp (f_J7_fill_bad5a_10 Γ n M a (J b) u (J k)) Q := by
  intro d
  induction d with
  | zero =>
    intro n M k hk2 hn hQ
    obtain ⟨n, rfl⟩ : ∃ k, n = k + 1 := ⟨n - 1, by omega⟩
    rw [f_J7_fill_bad5a_10]
    simp (disch := omega) only [wp_some, wp_ck_T, wp_ck_t, wp_bind, wp_ite_t, wp_ite_f, J_lit, J_neg, J_add, J_sub, J_mul, J_lt, J_le, J_eq, J_toInt, J_clamp, J_suc, si_1, si_2, sl_1, sl_2, sl_3, Int.toNat_natCast, Int.reduceToNat, Nat.add_sub_cancel, Int.toNat_add, Int.toNat_mul, Int.toNat_sub'', true_and, and_true, and_self, if_true, if_false, not_true, not_false_eq_true]
    exact hQ M (Fr.refl _ _) rfl (fun i => by rw [if_neg (by omega)])
  | succ d ih =>
    intro n M k hk2 hn hQ
    obtain ⟨n, rfl⟩ : ∃ k, n = k + 1 := ⟨n - 1, by omega⟩
    rw [f_J7_fill_bad5a_10]
    simp (disch := omega) only [wp_some, wp_ck_T, wp_ck_t, wp_bind, wp_ite_t, wp_ite_f, J_lit, J_neg, J_add, J_sub, J_mul, J_lt, J_le, J_eq, J_toInt, J_clamp, J_suc, si_1, si_2, sl_1, sl_2, sl_3, Int.toNat_natCast, Int.reduceToNat, Nat.add_sub_cancel, Int.toNat_add, Int.toNat_mul, Int.toNat_sub'', true_and, and_true, and_self, if_true, if_false, not_true, not_false_eq_true, hk, hl]
    have hF : Fr [a] M (rhsl M a k u) := (Fr.refl _ _).sl (by simp) _ _
    refine ih n _ (k + 1) (by omega) (by omega) (fun M' h1 h3 h2 => hQ M' (hF.trans h1) h3 (fun i => ?_))
    rw [h2, sl_2]
    by_cases e : i = k
    · rw [if_neg (by omega), if_pos ⟨rfl, e⟩, if_pos (by omega)]
    · by_cases e2 : k + 1 ≤ i ∧ i < b
      · rw [if_pos e2, if_pos (by omega)]
      · rw [if_neg e2, if_neg (by omega), if_neg (by omega)]
theorem c_fillL {r n a b : Nat} {u : Int64} (hk : Γ.2.2.1 r = 16) (hl : Γ.2.2.2 r = n) (hn : n < 900000000) (h1 : a ≤ b) (h2 : b ≤ n) : wp (f_J7_fill_bad5a Γ M r (J a) (J b) u) (fun M' => Fr [r] M M' ∧ M'.1 = M.1 ∧ ∀ i, M'.2.1 r i = if a ≤ i ∧ i < b then u else M.2.1 r i) := by
  rw [f_J7_fill_bad5a, wp_ck_t hk, hl, c_rng h1 h2 (by omega), wp_bind, wp_some]
  exact c_fillL10 hk hl (by omega) h2 _ (b - a) rhFU M a (by omega) (by have := FU_big2; omega) (fun M' x z y => ⟨x, z, y⟩)
theorem c_fillA5 {a n0 : Nat} (hk : Γ.2.2.1 a = 15) (hl : Γ.2.2.2 a = n0) (hn0 : n0 < 2147483648) (Q : rhM → Prop) : ∀ (d n : Nat) (M : rhM) (k : Nat), k + d = n0 → d < n →
    (∀ M', Fr [a] M M' → (∀ i, M'.1 a i = if k ≤ i ∧ i < n0 then v else M.1 a i) → Q M') → wp (f_J7_fill_53178_5 Γ n M a v (J k) (J n0)) Q := by
  intro d
  induction d with
  | zero =>
    intro n M k hk2 hn hQ
    obtain ⟨n, rfl⟩ : ∃ k, n = k + 1 := ⟨n - 1, by omega⟩
    rw [f_J7_fill_53178_5]
    simp (disch := omega) only [wp_some, wp_ck_T, wp_ck_t, wp_bind, wp_ite_t, wp_ite_f, J_lit, J_neg, J_add, J_sub, J_mul, J_lt, J_le, J_eq, J_toInt, J_clamp, J_suc, si_1, si_2, sl_1, sl_2, sl_3, Int.toNat_natCast, Int.reduceToNat, Nat.add_sub_cancel, Int.toNat_add, Int.toNat_mul, Int.toNat_sub'', true_and, and_true, and_self, if_true, if_false, not_true, not_false_eq_true]
    exact hQ M (Fr.refl _ _) (fun i => by rw [if_neg (by omega)])
  | succ d ih =>
    intro n M k hk2 hn hQ
    obtain ⟨n, rfl⟩ : ∃ k, n = k + 1 := ⟨n - 1, by omega⟩
    rw [f_J7_fill_53178_5]
    simp (disch := omega) only [wp_some, wp_ck_T, wp_ck_t, wp_bind, wp_ite_t, wp_ite_f, J_lit, J_neg, J_add, J_sub, J_mul, J_lt, J_le, J_eq, J_toInt, J_clamp, J_suc, si_1, si_2, sl_1, sl_2, sl_3, Int.toNat_natCast, Int.reduceToNat, Nat.add_sub_cancel, Int.toNat_add, Int.toNat_mul, Int.toNat_sub'', true_and, and_true, and_self, if_true, if_false, not_true, not_false_eq_true, hk, hl]
    have hF : Fr [a] M (rhsi M a k v) := (Fr.refl _ _).si (by simp) _ _
    refine ih n _ (k + 1) (by omega) (by omega) (fun M' h1 h2 => hQ M' (hF.trans h1) (fun i => ?_))
    rw [h2, si_1]
    by_cases e : i = k
    · rw [if_neg (by omega), if_pos ⟨rfl, e⟩, if_pos (by omega)]
    · by_cases e2 : k + 1 ≤ i ∧ i < n0
      · rw [if_pos e2, if_pos (by omega)]
      · rw [if_neg e2, if_neg (by omega), if_neg (by omega)]
theorem c_fillA {r n : Nat} (hk : Γ.2.2.1 r = 15) (hl : Γ.2.2.2 r = n) (hn : n < 900000000) : wp (f_J7_fill_53178 Γ M r v) (fun M' => Fr [r] M M' ∧ ∀ i, i < n → M'.1 r i = v) := by
  rw [f_J7_fill_53178, wp_ck_t hk, hl, show Int32.ofNat n = J n from Int32.ofInt_eq_ofNat.symm]
  dsimp only
  rw [show (0 : Int32) = J ((0 : Nat) : Int) from rfl]
  exact c_fillA5 hk hl (by omega) _ n rhFU M 0 (by omega) (by have := FU_big2; omega) (fun M' x y => ⟨x, fun i hi => by rw [y, if_pos (by omega)]⟩)
theorem c_states4 {t R H : Nat} (hk : Γ.2.2.1 t = 10) (h0 : M.1 t 0 = J R) (h1 : M.1 t 1 = J H) (hH : H ≤ 8) : ∀ (d n k : Nat), k + d = H → d < n → f_X9_states_4 Γ M n t (J (ways R k)) (J k) = some (J (ways R H)) := by
  intro d
  induction d with
  | zero =>
    intro n k hd hn
    obtain ⟨n, rfl⟩ : ∃ k, n = k + 1 := ⟨n - 1, by omega⟩
    apply wp_eq
    rw [f_X9_states_4]
    simp (disch := omega) only [wp_some, wp_ck_T, wp_ck_t, wp_bind, wp_ite_t, wp_ite_f, J_lit, J_neg, J_add, J_sub, J_mul, J_lt, J_le, J_eq, J_toInt, J_clamp, J_suc, si_1, si_2, sl_1, sl_2, sl_3, Int.toNat_natCast, Int.reduceToNat, Nat.add_sub_cancel, Int.toNat_add, Int.toNat_mul, Int.toNat_sub'', true_and, and_true, and_self, if_true, if_false, not_true, not_false_eq_true, hk, h1, show k = H by omega]
  | succ d ih =>
    intro n k hd hn
    obtain ⟨n, rfl⟩ : ∃ k, n = k + 1 := ⟨n - 1, by omega⟩
    have := ih n (k + 1) (by omega) (by omega)
    have e : (ways R k : Int) * (R + k) = ((ways R (k + 1) : Nat) : Int) := by rw [ways]; simp
    apply wp_eq
    rw [f_X9_states_4]
    simp (disch := omega) only [wp_some, wp_ck_T, wp_ck_t, wp_bind, wp_ite_t, wp_ite_f, J_lit, J_neg, J_add, J_sub, J_mul, J_lt, J_le, J_eq, J_toInt, J_clamp, J_suc, si_1, si_2, sl_1, sl_2, sl_3, Int.toNat_natCast, Int.reduceToNat, Nat.add_sub_cancel, Int.toNat_add, Int.toNat_mul, Int.toNat_sub'', true_and, and_true, and_self, if_true, if_false, not_true, not_false_eq_true, hk, h0, h1, e, this]
theorem c_states {t R H : Nat} (hk : Γ.2.2.1 t = 10) (h0 : M.1 t 0 = J R) (h1 : M.1 t 1 = J H) (hH : H ≤ 8) : f_X9_states Γ M t = some (J (ways R H)) := by
  rw [f_X9_states]
  exact c_states4 hk h0 h1 hH H rhFU 0 (by omega) (by have := FU_big2; omega)
theorem c_fbegin {F cp st : Nat} (hS : FSh Γ M F cp) (hcp : cp ≤ 60480) (h0 : M.1 F 0 = J cp) (hst : st ≤ cp) (wt : Nat → Nat) :
    wp (f_X0_begin Γ M F (J st)) (fun M' => Fr [F, F + 1, F + 2, F + 3] M M' ∧ M'.1 F 0 = J cp ∧ WL M' F cp (fun _ => []) wt 0 ∧ ∀ k, k < st → M'.2.1 (F + 3) k = -1) := by
  obtain ⟨k0, ⟨k1, n1⟩, ⟨k2, n2⟩, ⟨k3, n3⟩, -, -, r5, r6, r2, -⟩ := hS
  have F1 : Fr [F] M (rhsi M F 1 0) := (Fr.refl _ _).si (by simp) _ _
  have g0 : (rhsi M F 1 0).1 F 0 = J cp := by rw [si_1, if_neg (by omega)]; exact h0
  have g1 : (rhsi M F 1 0).1 F 1 = J ((0 : Nat) : Int) := by rw [si_1, if_pos ⟨rfl, rfl⟩]; rfl
  have r2' : (rhsi M F 1 0).2.2 F 2 = F + 3 := r2
  rw [f_X0_begin, wp_ck_t k0]
  dsimp only
  rw [g0, r2, show (0 : Int32) = J ((0 : Nat) : Int) from rfl]
  generalize hM1 : rhsi M F 1 (J ((0 : Nat) : Int)) = M1
  have e1 : (if J cp < J st then J cp else J st) = J st := by rw [if_neg (by rw [J_lt (by omega) (by omega) (by omega) (by omega)]; omega)]
  rw [show rhsi M F 1 0 = M1 from hM1] at F1 g0 g1
  rw [e1, wp_bind]
  refine (c_fillL (Γ := Γ) (M := M1) (a := 0) (b := st) (u := -1) k3 n3 (by omega) (Nat.zero_le _) hst).mono (fun M2 h2 => ?_)
  obtain ⟨F2, i2, l2⟩ := h2
  rw [wp_bind, F2.1, F1.1, r5]
  refine (c_fillA (Γ := Γ) (M := M2) (v := 65535) k1 n1 (by omega)).mono (fun M3 h3 => ?_)
  obtain ⟨F3, a3⟩ := h3
  rw [wp_bind, F3.1, F2.1, F1.1, r6]
  refine (c_fillA (Γ := Γ) (M := M3) (v := 65535) k2 n2 (by omega)).mono (fun M4 h4 => ?_)
  obtain ⟨F4, a4⟩ := h4
  rw [wp_some]
  have eF : M4.1 F = M1.1 F := by rw [F4.i (by simp), F3.i (by simp), i2]
  refine ⟨(((F1.sub (by simp)).trans (F2.sub (by simp))).trans (F3.sub (by simp))).trans (F4.sub (by simp)), by rw [eF]; exact g0, ⟨by rw [eF]; exact g1, fun k hk => ⟨by rw [F4.i (by simp), a3 k hk]; rfl, by rw [a4 k hk]; rfl, trivial, List.nodup_nil, fun x hx => by cases hx⟩⟩, fun k hk => ?_⟩
  rw [F4.l (by simp), F3.l (by simp), l2, if_pos (by omega)]
end
