section
variable {Γ : rhG} {M : rhM} {v : Int32}
theorem c_fillI10 {a n0 b : Nat} (hk : Γ.2.2.1 a = 15) (hl : Γ.2.2.2 a = n0) (hn0 : n0 < 2147483648) (hb : b ≤ n0) (Q : rhM → Prop) : ∀ (d n : Nat) (M : rhM) (k : Nat), k + d = b → d < n →
    (∀ M', Fr [a] M M' → (∀ i, M'.1 a i = if k ≤ i ∧ i < b then v else M.1 a i) → Q M') → wp (f_J7_fill_fda19_10 Γ n M a (J b) v (J k)) Q := by
  intro d
  induction d with
  | zero =>
    intro n M k hk2 hn hQ
    obtain ⟨n, rfl⟩ : ∃ k, n = k + 1 := ⟨n - 1, by omega⟩
    rw [f_J7_fill_fda19_10]
    simp (disch := omega) only [wp_some, wp_ck_T, wp_ck_t, wp_bind, wp_ite_t, wp_ite_f, J_lit, J_neg, J_add, J_sub, J_mul, J_lt, J_le, J_eq, J_toInt, J_clamp, J_suc, si_1, si_2, sl_1, sl_2, sl_3, Int.toNat_natCast, Int.reduceToNat, Nat.add_sub_cancel, Int.toNat_add, Int.toNat_mul, Int.toNat_sub'', true_and, and_true, and_self, if_true, if_false, not_true, not_false_eq_true]
    exact hQ M (Fr.refl _ _) (fun i => by rw [if_neg (by omega)])
  | succ d ih =>
    intro n M k hk2 hn hQ
    obtain ⟨n, rfl⟩ : ∃ k, n = k + 1 := ⟨n - 1, by omega⟩
    rw [f_J7_fill_fda19_10]
    simp (disch := omega) only [wp_some, wp_ck_T, wp_ck_t, wp_bind, wp_ite_t, wp_ite_f, J_lit, J_neg, J_add, J_sub, J_mul, J_lt, J_le, J_eq, J_toInt, J_clamp, J_suc, si_1, si_2, sl_1, sl_2, sl_3, Int.toNat_natCast, Int.reduceToNat, Nat.add_sub_cancel, Int.toNat_add, Int.toNat_mul, Int.toNat_sub'', true_and, and_true, and_self, if_true, if_false, not_true, not_false_eq_true, hk, hl]
    have hF : Fr [a] M (rhsi M a k (v)) := (Fr.refl _ _).si (by simp) _ _
    refine ih n _ (k + 1) (by omega) (by omega) (fun M' h1 h2 => hQ M' (hF.trans h1) (fun i => ?_))
    rw [h2, si_1]
    by_cases e : i = k
    · rw [if_neg (by omega), if_pos ⟨rfl, e⟩, if_pos (by omega)]
    · by_cases e2 : k + 1 ≤ i ∧ i < b
      · rw [if_pos e2, if_pos (by omega)]
      · rw [if_neg e2, if_neg (by omega), if_neg (by omega)]
theorem c_fillB10 {a n0 b : Nat} (hk : Γ.2.2.1 a = 14) (hl : Γ.2.2.2 a = n0) (hn0 : n0 < 2147483648) (hb : b ≤ n0) (Q : rhM → Prop) : ∀ (d n : Nat) (M : rhM) (k : Nat), k + d = b → d < n →
    (∀ M', Fr [a] M M' → (∀ i, M'.1 a i = if k ≤ i ∧ i < b then vp_nar .byte v else M.1 a i) → Q M') → wp (f_J7_fill_eb02e_10 Γ n M a (J b) v (J k)) Q := by
  intro d
  induction d with
  | zero =>
    intro n M k hk2 hn hQ
    obtain ⟨n, rfl⟩ : ∃ k, n = k + 1 := ⟨n - 1, by omega⟩
    rw [f_J7_fill_eb02e_10]
    simp (disch := omega) only [wp_some, wp_ck_T, wp_ck_t, wp_bind, wp_ite_t, wp_ite_f, J_lit, J_neg, J_add, J_sub, J_mul, J_lt, J_le, J_eq, J_toInt, J_clamp, J_suc, si_1, si_2, sl_1, sl_2, sl_3, Int.toNat_natCast, Int.reduceToNat, Nat.add_sub_cancel, Int.toNat_add, Int.toNat_mul, Int.toNat_sub'', true_and, and_true, and_self, if_true, if_false, not_true, not_false_eq_true]
    exact hQ M (Fr.refl _ _) (fun i => by rw [if_neg (by omega)])
  | succ d ih =>
    intro n M k hk2 hn hQ
    obtain ⟨n, rfl⟩ : ∃ k, n = k + 1 := ⟨n - 1, by omega⟩
    rw [f_J7_fill_eb02e_10]
    simp (disch := omega) only [wp_some, wp_ck_T, wp_ck_t, wp_bind, wp_ite_t, wp_ite_f, J_lit, J_neg, J_add, J_sub, J_mul, J_lt, J_le, J_eq, J_toInt, J_clamp, J_suc, si_1, si_2, sl_1, sl_2, sl_3, Int.toNat_natCast, Int.reduceToNat, Nat.add_sub_cancel, Int.toNat_add, Int.toNat_mul, Int.toNat_sub'', true_and, and_true, and_self, if_true, if_false, not_true, not_false_eq_true, hk, hl]
    have hF : Fr [a] M (rhsi M a k (vp_nar .byte v)) := (Fr.refl _ _).si (by simp) _ _
    refine ih n _ (k + 1) (by omega) (by omega) (fun M' h1 h2 => hQ M' (hF.trans h1) (fun i => ?_))
    rw [h2, si_1]
    by_cases e : i = k
    · rw [if_neg (by omega), if_pos ⟨rfl, e⟩, if_pos (by omega)]
    · by_cases e2 : k + 1 ≤ i ∧ i < b
      · rw [if_pos e2, if_pos (by omega)]
      · rw [if_neg e2, if_neg (by omega), if_neg (by omega)]
theorem c_rng {n a b : Nat} (h1 : a ≤ b) (h2 : b ≤ n) (hn : n < 2147483648) : f_J7_rangeCheck_23922 Γ M (Int32.ofNat n) (J a) (J b) = some () := by
  rw [show Int32.ofNat n = J n from Int32.ofInt_eq_ofNat.symm]
  have hh : wp (f_J7_rangeCheck_23922 Γ M (J n) (J a) (J b)) (fun _ => True) := by
    rw [f_J7_rangeCheck_23922]
    simp (disch := omega) only [wp_some, wp_ck_T, wp_ck_t, wp_bind, wp_ite_t, wp_ite_f, J_lit, J_neg, J_add, J_sub, J_mul, J_lt, J_le, J_eq, J_toInt, J_clamp, J_suc, si_1, si_2, sl_1, sl_2, sl_3, Int.toNat_natCast, Int.reduceToNat, Nat.add_sub_cancel, Int.toNat_add, Int.toNat_mul, Int.toNat_sub'', true_and, and_true, and_self, if_true, if_false, not_true, not_false_eq_true]
  obtain ⟨x, hx, -⟩ := hh
  exact hx
theorem c_fillI {r n a b : Nat} (hk : Γ.2.2.1 r = 15) (hl : Γ.2.2.2 r = n) (hn : n < 900000000) (h1 : a ≤ b) (h2 : b ≤ n) : wp (f_J7_fill_fda19 Γ M r (J a) (J b) v) (fun M' => Fr [r] M M' ∧ ∀ i, M'.1 r i = if a ≤ i ∧ i < b then v else M.1 r i) := by
  rw [f_J7_fill_fda19, wp_ck_t hk, hl, c_rng h1 h2 (by omega), wp_bind, wp_some]
  exact c_fillI10 hk hl (by omega) h2 _ (b - a) rhFU M a (by omega) (by have := FU_big2; omega) (fun M' x y => ⟨x, y⟩)
theorem c_fillB {r n a b : Nat} (hk : Γ.2.2.1 r = 14) (hl : Γ.2.2.2 r = n) (hn : n < 900000000) (h1 : a ≤ b) (h2 : b ≤ n) : wp (f_J7_fill_eb02e Γ M r (J a) (J b) v) (fun M' => Fr [r] M M' ∧ ∀ i, M'.1 r i = if a ≤ i ∧ i < b then vp_nar .byte v else M.1 r i) := by
  rw [f_J7_fill_eb02e, wp_ck_t hk, hl, c_rng h1 h2 (by omega), wp_bind, wp_some]
  exact c_fillB10 hk hl (by omega) h2 _ (b - a) rhFU M a (by omega) (by have := FU_big2; omega) (fun M' x y => ⟨x, y⟩)
/-! bits for a number of states -/
def isBits (st tb : Nat) : Prop := 1 ≤ tb ∧ tb ≤ 17 ∧ 2 * st ≤ 2 ^ tb ∧ ∀ b, 1 ≤ b → b < tb → 2 ^ b < 2 * st
theorem bits_mono {st cp tb tc : Nat} (h : isBits st tb) (h2 : isBits cp tc) (hs : st ≤ cp) : tb ≤ tc := by
  by_cases c : tc < tb
  · have := h.2.2.2 tc h2.1 c
    have := h2.2.2.1; omega
  · omega
theorem c_bits2 {st : Nat} (hs : st ≤ 60480) : ∀ (d n b : Nat), b + d = 17 → 1 ≤ b → d < n → (∀ b', 1 ≤ b' → b' < b → 2 ^ b' < 2 * st) → ∃ tb : Nat, f_X0_bitsFor_2 Γ M n (J st) (J b) = some (J tb) ∧ isBits st tb := by
  intro d
  induction d with
  | zero =>
    intro n b hb h1 hn hI
    obtain ⟨n, rfl⟩ : ∃ k, n = k + 1 := ⟨n - 1, by omega⟩
    have hb17 : b = 17 := by omega
    subst hb17
    refine ⟨17, ?_, by omega, by omega, by omega, hI⟩
    have e := J_shl 1 (k := 17) (by omega)
    rw [show ((1 : Nat) : Int) = 1 from rfl, Nat.one_mul, show (31 : Int32) = J 31 from rfl, show ((17 : Nat) : Int) = 17 from rfl] at e
    apply wp_eq
    rw [f_X0_bitsFor_2]
    simp (disch := omega) only [wp_some, wp_ck_T, wp_ck_t, wp_bind, wp_ite_t, wp_ite_f, J_lit, J_neg, J_add, J_sub, J_mul, J_lt, J_le, J_eq, J_toInt, J_clamp, J_suc, si_1, si_2, sl_1, sl_2, sl_3, Int.toNat_natCast, Int.reduceToNat, Nat.add_sub_cancel, Int.toNat_add, Int.toNat_mul, Int.toNat_sub'', true_and, and_true, and_self, if_true, if_false, not_true, not_false_eq_true, e, show ((17 : Nat) : Int) = 17 from rfl]
  | succ d ih =>
    intro n b hb h1 hn hI
    obtain ⟨n, rfl⟩ : ∃ k, n = k + 1 := ⟨n - 1, by omega⟩
    have e := J_shl 1 (k := b) (by omega)
    rw [show ((1 : Nat) : Int) = 1 from rfl, Nat.one_mul, show (31 : Int32) = J 31 from rfl] at e
    have hp : 2 ^ b ≤ 2 ^ 17 := pow_le (by omega)
    have z0 : (0 : Int) ≤ ((2 ^ b : Nat) : Int) := Int.natCast_nonneg _
    have z1 : ((2 ^ b : Nat) : Int) ≤ 131072 := Int.ofNat_le.mpr hp
    by_cases c : 2 ^ b < 2 * st
    · have z2 : ((2 ^ b : Nat) : Int) < ((2 * st : Nat) : Int) := Int.ofNat_lt.mpr c
      obtain ⟨tb, h2, h3⟩ := ih n (b + 1) (by omega) (by omega) (by omega) (fun b' x y => by
        by_cases e : b' = b
        · rw [e]; exact c
        · exact hI b' x (by omega))
      refine ⟨tb, ?_, h3⟩
      apply wp_eq
      rw [f_X0_bitsFor_2]
      simp (disch := omega) only [wp_some, wp_ck_T, wp_ck_t, wp_bind, wp_ite_t, wp_ite_f, J_lit, J_neg, J_add, J_sub, J_mul, J_lt, J_le, J_eq, J_toInt, J_clamp, J_suc, si_1, si_2, sl_1, sl_2, sl_3, Int.toNat_natCast, Int.reduceToNat, Nat.add_sub_cancel, Int.toNat_add, Int.toNat_mul, Int.toNat_sub'', true_and, and_true, and_self, if_true, if_false, not_true, not_false_eq_true, e, h2]
    · have z2 : ((2 * st : Nat) : Int) ≤ ((2 ^ b : Nat) : Int) := Int.ofNat_le.mpr (by omega)
      refine ⟨b, ?_, h1, by omega, by omega, hI⟩
      apply wp_eq
      rw [f_X0_bitsFor_2]
      simp (disch := omega) only [wp_some, wp_ck_T, wp_ck_t, wp_bind, wp_ite_t, wp_ite_f, J_lit, J_neg, J_add, J_sub, J_mul, J_lt, J_le, J_eq, J_toInt, J_clamp, J_suc, si_1, si_2, sl_1, sl_2, sl_3, Int.toNat_natCast, Int.reduceToNat, Nat.add_sub_cancel, Int.toNat_add, Int.toNat_mul, Int.toNat_sub'', true_and, and_true, and_self, if_true, if_false, not_true, not_false_eq_true, e]
theorem c_bits {st : Nat} (hs : st ≤ 60480) : ∃ tb : Nat, f_X0_bitsFor Γ M (J st) = some (J tb) ∧ isBits st tb := by
  rw [f_X0_bitsFor]
  exact c_bits2 hs 16 rhFU 1 (by omega) (by omega) (by have := FU_big2; omega) (fun b' x y => by omega)
theorem c_states4 {t R H : Nat} (hk : Γ.2.2.1 t = 10) (h0 : M.1 t 0 = J R) (h1 : M.1 t 1 = J H) (hH : H ≤ 8) : ∀ (d n k : Nat), k + d = H → d < n → f_X9_states_4 Γ M n t (J (ways R k)) (J k) = some (J (ways R H)) := by
  intro d
  induction d with
  | zero =>
    intro n k hd hn
    obtain ⟨n, rfl⟩ : ∃ k, n = k + 1 := ⟨n - 1, by omega⟩
    apply wp_eq
    rw [f_X9_states_4]
    simp (disch := omega) only [wp_some, wp_ck_T, wp_ck_t, wp_bind, wp_ite_t, wp_ite_f, J_lit, J_neg, J_add, J_sub, J_mul, J_lt, J_le, J_eq, J_toInt, J_clamp, J_suc, si_1, si_2, sl_1, sl_2, sl_3, Int.toNat_natCast, Int.reduceToNat, Nat.add_sub_cancel, Int.toNat_add, Int.toNat_mul, Int.toNat_sub'', true_and, and_true, and_self, if_true, if_false, not_true, not_false_eq_true, hk, h1, show k = H by omega]
  | succ d ih =>
    intro n k hd hn
    obtain ⟨n, rfl⟩ : ∃ k, n = k + 1 := ⟨n - 1, by omega⟩
    have := ih n (k + 1) (by omega) (by omega)
    have e : (ways R k : Int) * (R + k) = ((ways R (k + 1) : Nat) : Int) := by rw [ways]; simp
    apply wp_eq
    rw [f_X9_states_4]
    simp (disch := omega) only [wp_some, wp_ck_T, wp_ck_t, wp_bind, wp_ite_t, wp_ite_f, J_lit, J_neg, J_add, J_sub, J_mul, J_lt, J_le, J_eq, J_toInt, J_clamp, J_suc, si_1, si_2, sl_1, sl_2, sl_3, Int.toNat_natCast, Int.reduceToNat, Nat.add_sub_cancel, Int.toNat_add, Int.toNat_mul, Int.toNat_sub'', true_and, and_true, and_self, if_true, if_false, not_true, not_false_eq_true, hk, h0, h1, e, this]
theorem c_states {t R H : Nat} (hk : Γ.2.2.1 t = 10) (h0 : M.1 t 0 = J R) (h1 : M.1 t 1 = J H) (hH : H ≤ 8) : f_X9_states Γ M t = some (J (ways R H)) := by
  rw [f_X9_states]
  exact c_states4 hk h0 h1 hH H rhFU 0 (by omega) (by have := FU_big2; omega)
theorem c_fbegin {F cp tln st : Nat} (hS : FSh Γ M F cp tln) (hcp : cp ≤ 60480) (hst : st ≤ cp) {tc : Nat} (hc : isBits cp tc) (htln : tln = 2 ^ tc) :
    wp (f_X0_begin Γ M F (J st)) (fun M' => Fr [F, F + 5] M M' ∧ ∃ tb, isBits st tb ∧ FW M' F tb [] (fun _ => 0)) := by
  obtain ⟨s0, ⟨s1, n1⟩, -, -, -, ⟨s5, n5⟩, r1, r2, r3, r4, r5⟩ := hS
  obtain ⟨tb, hb, hb2⟩ := c_bits (Γ := Γ) (M := rhsi M F 0 (J 0)) (st := st) (by omega)
  have hle := bits_mono hb2 hc hst
  have hp := pow_le hle
  have hp17 : 2 ^ tc ≤ 2 ^ 17 := pow_le hc.2.1
  have e := J_shl 1 (k := tb) (by have := hb2.2.1; omega)
  rw [show ((1 : Nat) : Int) = 1 from rfl, Nat.one_mul, show (31 : Int32) = J 31 from rfl] at e
  have z0 : (0 : Int) ≤ ((2 ^ tb : Nat) : Int) := Int.natCast_nonneg _
  have z1 : ((2 ^ tb : Nat) : Int) ≤ ((tln : Nat) : Int) := Int.ofNat_le.mpr (by rw [htln]; exact hp)
  have z2 : ((tln : Nat) : Int) ≤ 131072 := Int.ofNat_le.mpr (by rw [htln]; exact hp17)
  have e1 : (if J cp < J st then J cp else J st) = J st := by rw [if_neg (by rw [J_lt (by omega) (by omega) (by omega) (by omega)]; omega)]
  have e2 : (if J tln < J ((2 ^ tb : Nat) : Int) then J tln else J ((2 ^ tb : Nat) : Int)) = J ((2 ^ tb : Nat) : Int) := by rw [if_neg (by rw [J_lt (by omega) (by omega) (by omega) (by omega)]; omega)]
  rw [f_X0_begin, wp_ck_t s0]
  dsimp only
  rw [r1, wp_ck_t s1, n1, show Int32.ofNat cp = J cp from Int32.ofInt_eq_ofNat.symm, e1, show (0 : Int32) = J 0 from rfl, hb, wp_bind, wp_some, r5, wp_ck_t s5, n5, show Int32.ofNat tln = J tln from Int32.ofInt_eq_ofNat.symm]
  have e3 : (rhsi (rhsi M F 0 (J 0)) F 6 (J tb)).1 F 6 = J tb := by rw [si_1, if_pos ⟨rfl, rfl⟩]
  rw [e3, show (1 : Int32) = J 1 from rfl, show (31 : Int32) = J 31 from rfl, e, e2, wp_bind]
  have hF : Fr [F] M (rhsi (rhsi M F 0 (J 0)) F 6 (J tb)) := ((Fr.refl _ _).si (by simp) _ _).si (by simp) _ _
  have hZ := Nat.pow_pos (n := tb) (show 0 < 2 by decide)
  refine (c_fillI (Γ := Γ) (v := J 0) (a := 0) (b := 2 ^ tb) s5 n5 (by rw [htln]; omega) (Nat.zero_le _) (by rw [htln]; exact hp)).mono (fun M' h => ?_)
  rw [wp_some]
  refine ⟨(hF.sub (by simp)).trans (h.1.sub (by simp)), tb, hb2, ?_, ?_, fun i w hw => ?_, fun q hq => ?_, HInv.empty hZ (fun w => hs_lt (by have := hb2.2.1; omega) w)⟩
  · rw [h.1.i (by simp), si_1, if_neg (by omega), si_1, if_pos ⟨rfl, rfl⟩]; rfl
  · rw [h.1.i (by simp)]; exact e3
  · simp [wds] at hw
  · rw [h.2, if_pos ⟨Nat.zero_le _, hq⟩]; rfl
end
