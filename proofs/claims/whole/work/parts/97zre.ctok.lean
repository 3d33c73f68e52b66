/-! THE CLASS'S TOKENS -/
def CB (M : rhM) (bs : List Int32) : Prop := M.2.2 4 0 = 5 ∧ M.2.2 4 1 = 2 ∧ M.1 4 2 = J bs.length ∧ Bs (M.1 2) bs ∧ bs.length ≤ 1600 ∧ C14 M ∧ ∀ z, z ∈ bs → -128 ≤ z.toInt ∧ z.toInt < 128
def CT (M : rhM) (bs : List Int32) (i : Nat) : Prop := CB M bs ∧ M.1 4 3 = J (qn bs i) ∧ M.1 4 5 = J (qp bs i) ∧ M.1 4 4 = J (qk bs i) ∧ M.1 4 7 = J (qx bs i) ∧ M.1 4 9 = J (qs bs i) ∧ (qk bs i = 2 → M.2.1 4 6 = jl (enc (qw bs i))) ∧ (qk bs i = 4 → M.1 4 8 = J (qv bs i))
theorem bt_rng {bs : List Int32} (h : ∀ z, z ∈ bs → -128 ≤ z.toInt ∧ z.toInt < 128) (i : Nat) : -128 ≤ bt bs i ∧ bt bs i < 128 := by
  by_cases c : i < bs.length
  · rw [bt_lt c]; exact h _ (List.getElem_mem c)
  · rw [bt_ge (by omega)]; decide
theorem CB.si {M : rhM} {bs : List Int32} (h : CB M bs) {k : Nat} (hk : k ≠ 2) (v : Int32) : CB (rhsi M 4 k v) bs := by
  obtain ⟨h0, h1, h2, h3, h4, h5, h6⟩ := h
  refine ⟨h0, h1, ?_, ?_, h4, h5, h6⟩
  · rw [si_1, if_neg (by omega)]; exact h2
  · have : (rhsi M 4 k v).1 2 = M.1 2 := by funext j; rw [si_1, if_neg (by omega)]
    rw [this]; exact h3
theorem CB.sl {M : rhM} {bs : List Int32} (h : CB M bs) (k : Nat) (v : Int64) : CB (rhsl M 4 k v) bs := by
  obtain ⟨h0, h1, h2, h3, h4, h5, h6⟩ := h
  refine ⟨h0, h1, h2, h3, h4, ?_, h6⟩
  intro i hi
  rw [sl_2, if_neg (by omega)]; exact h5 i hi
theorem jl_64 : ∀ k, k < 256 → (J (k : Nat)).toInt64 = jl k := by decide +kernel
theorem jl_cat {a c k : Nat} (hc : c < 2 ^ k) (hk : k < 64) (h2 : c < 256) : rhsh (jl a) (J k) ||| (J (c : Nat)).toInt64 = jl (a * 2 ^ k + c) := by
  rw [jl_shl a hk, jl_64 c h2, jl_or, ← Nat.shiftLeft_add_eq_or_of_lt hc, Nat.shiftLeft_eq]
section
variable {Γ : rhG} {M : rhM} {bs : List Int32} {Q : rhM → Prop}
theorem c_isLe {b : Int} (h : -128 ≤ b ∧ b < 256) : f_X8_isLetter Γ M (J b) = some (if isLe b = true then 1 else 0) := by
  unfold f_X8_isLetter isLe
  have e1 : (J b < 97) = (b < 97) := by rw [show (97 : Int32) = J 97 from rfl, J_lt (by omega) (by omega) (by omega) (by omega)]
  have e2 : (122 < J b) = (122 < b) := by rw [show (122 : Int32) = J 122 from rfl, J_lt (by omega) (by omega) (by omega) (by omega)]
  by_cases c : 97 ≤ b ∧ b ≤ 122
  · rw [if_neg (by rw [e1]; omega), if_neg (by rw [e2]; omega), if_pos (by rw [decide_eq_true_eq]; exact c)]
  · rw [if_neg (c := decide _ = true) (by rw [decide_eq_true_eq]; exact c)]
    by_cases c2 : b < 97
    · rw [if_pos (by rw [e1]; exact c2)]
    · rw [if_neg (by rw [e1]; exact c2), if_pos (by rw [e2]; omega)]
theorem c_isDi {b : Int} (h : -128 ≤ b ∧ b < 256) : f_X8_isDigit Γ M (J b) = some (if isDi b = true then 1 else 0) := by
  unfold f_X8_isDigit isDi
  have e1 : (J b < 48) = (b < 48) := by rw [show (48 : Int32) = J 48 from rfl, J_lt (by omega) (by omega) (by omega) (by omega)]
  have e2 : (57 < J b) = (57 < b) := by rw [show (57 : Int32) = J 57 from rfl, J_lt (by omega) (by omega) (by omega) (by omega)]
  by_cases c : 48 ≤ b ∧ b ≤ 57
  · rw [if_neg (by rw [e1]; omega), if_neg (by rw [e2]; omega), if_pos (by rw [decide_eq_true_eq]; exact c)]
  · rw [if_neg (c := decide _ = true) (by rw [decide_eq_true_eq]; exact c)]
    by_cases c2 : b < 48
    · rw [if_pos (by rw [e1]; exact c2)]
    · rw [if_neg (by rw [e1]; exact c2), if_pos (by rw [e2]; omega)]
theorem c_adv10 (hG : GK Γ) (K : rhM → Nat → Option rhM) : ∀ (n : Nat) (M : rhM) (i : Nat), CB M bs → M.1 4 3 = J i → i ≤ bs.length → bs.length - i < n →
    (∀ M', Fr [4] M M' → CB M' bs → (∀ k, k ≠ 3 → M'.1 4 k = M.1 4 k) → M'.2.1 4 = M.2.1 4 → M'.1 4 3 = J (qp bs i) → wp (K M' 4) Q) → wp (f_X8_advance_10 K Γ n M 4) Q := by
  intro n
  induction n with
  | zero => intro M i _ _ _ h; omega
  | succ n ih =>
    intro M i hB h3 hi hn hK
    obtain ⟨b0, b1, b2, b3, b4, b5, b6⟩ := id hB
    have hr := bt_rng b6 i
    rw [f_X8_advance_10, wp_ck_t (GKk4 hG), h3, b2, b1]
    have hend : isBl (bt bs i) = false → wp (K M 4) Q := fun h => hK M (Fr.refl _ _) hB (fun _ _ => rfl) rfl (by unfold qp; rw [skp_f h]; exact h3)
    by_cases c : i < bs.length
    · have e := Bs_bt b3 c
      rw [wp_ite_t (by rw [J_lt (by omega) (by omega) (by omega) (by omega)]; omega), wp_ck_t (GKk2 hG), wp_ck_t (by rw [J_toInt (by omega) (by omega), GKl2 hG]; omega), J_clamp (by omega) (by omega), Int.toNat_natCast, e]
      have hgo : isBl (bt bs i) = true → wp (f_X8_advance_49 (f_X8_advance_10 K Γ n) Γ M 4) Q := fun h => by
        have hs := skp_t isBl0 h
        rw [f_X8_advance_49, wp_ck_t (GKk4 hG), h3, show (1 : Int32) = J 1 from rfl, J_add, J_suc]
        refine ih _ (i + 1) (hB.si (by decide) _) (by rw [si_1, if_pos ⟨rfl, rfl⟩]) (by omega) (by omega) (fun M' f1 f2 f3 f4 f5 => ?_)
        refine hK M' (((Fr.refl _ _).si (by simp) _ _).trans f1) f2 (fun k hk => ?_) f4 ?_
        · rw [f3 k hk, si_1, if_neg (by omega)]
        · rw [f5]; unfold qp; rw [hs.2]
      by_cases c1 : bt bs i = 32
      · rw [wp_ite_t (by rw [show (32 : Int32) = J 32 from rfl, J_eq (by omega) (by omega) (by omega) (by omega)]; exact c1)]
        exact hgo (by unfold isBl; rw [decide_eq_true_eq]; exact Or.inl c1)
      · rw [wp_ite_f (by rw [show (32 : Int32) = J 32 from rfl, J_eq (by omega) (by omega) (by omega) (by omega)]; exact c1)]
        by_cases c2 : bt bs i = 10
        · rw [wp_ite_t (by rw [show (10 : Int32) = J 10 from rfl, J_eq (by omega) (by omega) (by omega) (by omega)]; exact c2)]
          exact hgo (by unfold isBl; rw [decide_eq_true_eq]; exact Or.inr c2)
        · rw [wp_ite_f (by rw [show (10 : Int32) = J 10 from rfl, J_eq (by omega) (by omega) (by omega) (by omega)]; exact c2)]
          exact hend (by unfold isBl; rw [decide_eq_false_iff_not]; omega)
    · rw [wp_ite_f (by rw [J_lt (by omega) (by omega) (by omega) (by omega)]; omega)]
      exact hend (by rw [bt_ge (by omega)]; exact isBl0)
theorem wl_step {p j m : Nat} (h1 : p ≤ j) (h2 : j - p < m) : wl bs p (min m (j + 1 - p)) = wl bs p (min m (j - p)) ++ [(bt bs j).toNat] := by
  rw [show min m (j + 1 - p) = j - p + 1 by omega, show min m (j - p) = j - p by omega, wl, show p + (j - p) = j by omega]
theorem nv_step {p j m : Nat} (h1 : p ≤ j) (h2 : j - p < m) : nvl bs p (min m (j + 1 - p)) = nvl bs p (min m (j - p)) * 10 + ((bt bs j).toNat - 48) := by
  rw [show min m (j + 1 - p) = j - p + 1 by omega, show min m (j - p) = j - p by omega, nvl, show p + (j - p) = j by omega]
theorem c_word5 (hG : GK Γ) (K : rhM → Nat → Option rhM) {p : Nat} : ∀ (n : Nat) (M : rhM) (j : Nat), CB M bs → M.1 4 3 = J j → M.1 4 5 = J p → M.2.1 4 6 = jl (enc (wl bs p (min 8 (j - p)))) → p ≤ j → j ≤ bs.length → bs.length - j < n →
    (∀ M', Fr [4] M M' → CB M' bs → (∀ k, k ≠ 3 → M'.1 4 k = M.1 4 k) → M'.1 4 3 = J (skp isLe bs j) → M'.2.1 4 6 = jl (enc (wl bs p (min 8 (skp isLe bs j - p)))) → wp (K M' 4) Q) → wp (f_X8_readWord_5 K Γ n M 4) Q := by
  intro n
  induction n with
  | zero => intro M j _ _ _ _ _ _ h; omega
  | succ n ih =>
    intro M j hB h3 h5 h6 hp hj hn hK
    obtain ⟨b0, b1, b2, b3, b4, b5, b6⟩ := id hB
    have hr := bt_rng b6 j
    rw [f_X8_readWord_5, wp_ck_t (GKk4 hG), h3, b2, b1, h5]
    have hend : isLe (bt bs j) = false → wp (K M 4) Q := fun h => hK M (Fr.refl _ _) hB (fun _ _ => rfl) (by rw [skp_f h]; exact h3) (by rw [skp_f h]; exact h6)
    by_cases c : j < bs.length
    · have e := Bs_bt b3 c
      rw [wp_ite_t (by rw [J_lt (by omega) (by omega) (by omega) (by omega)]; omega), wp_ck_t (GKk2 hG), wp_ck_t (by rw [J_toInt (by omega) (by omega), GKl2 hG]; omega), J_clamp (by omega) (by omega), Int.toNat_natCast, e, wp_bind, c_isLe (by omega), wp_some]
      by_cases c1 : isLe (bt bs j) = true
      · rw [if_pos c1, wp_ite_f (by decide)]
        have hs := skp_t isLe0 c1
        have hl : 97 ≤ bt bs j ∧ bt bs j ≤ 122 := by unfold isLe at c1; rw [decide_eq_true_eq] at c1; exact c1
        by_cases c2 : j - p < 8
        · rw [wp_ite_t (by rw [J_sub, show (8 : Int32) = J 8 from rfl, J_lt (by omega) (by omega) (by omega) (by omega)]; omega), h6, show (97 : Int32) = J 97 from rfl, show (1 : Int32) = J 1 from rfl, J_sub, J_add, show bt bs j - 97 + 1 = (((bt bs j).toNat - 96 : Nat) : Int) by omega, show (5 : Int32) = J (5 : Nat) from rfl, jl_cat (by omega) (by omega) (by omega)]
          show wp (f_X8_readWord_71 (f_X8_readWord_5 K Γ n) Γ (rhsl M 4 6 (jl (enc (wl bs p (min 8 (j - p))) * 2 ^ 5 + ((bt bs j).toNat - 96)))) 4) Q
          rw [f_X8_readWord_71, wp_ck_t (GKk4 hG), sl_1, h3, show (1 : Int32) = J 1 from rfl, J_add, J_suc]
          refine ih _ (j + 1) ((hB.sl _ _).si (by decide) _) (by rw [si_1, if_pos ⟨rfl, rfl⟩]) (by rw [si_1, if_neg (by decide), sl_1]; exact h5) ?_ (by omega) (by omega) (by omega) (fun M' f1 f2 f3 f5 f6 => ?_)
          · rw [si_2, sl_2, if_pos ⟨rfl, rfl⟩, wl_step hp c2, enc_enb, enc_enb, enb_snoc]
          · refine hK M' ((((Fr.refl _ _).sl (by simp) _ _).si (by simp) _ _).trans f1) f2 (fun k hk => ?_) (by rw [f5, hs.2]) (by rw [f6, hs.2])
            rw [f3 k hk, si_1, if_neg (by omega), sl_1]
        · rw [wp_ite_f (by rw [J_sub, show (8 : Int32) = J 8 from rfl, J_lt (by omega) (by omega) (by omega) (by omega)]; omega), f_X8_readWord_71, wp_ck_t (GKk4 hG), h3, show (1 : Int32) = J 1 from rfl, J_add, J_suc]
          refine ih _ (j + 1) (hB.si (by decide) _) (by rw [si_1, if_pos ⟨rfl, rfl⟩]) (by rw [si_1, if_neg (by decide)]; exact h5) ?_ (by omega) (by omega) (by omega) (fun M' f1 f2 f3 f5 f6 => ?_)
          · rw [si_2, h6, show min 8 (j + 1 - p) = min 8 (j - p) by omega]
          · refine hK M' (((Fr.refl _ _).si (by simp) _ _).trans f1) f2 (fun k hk => ?_) (by rw [f5, hs.2]) (by rw [f6, hs.2])
            rw [f3 k hk, si_1, if_neg (by omega)]
      · rw [if_neg c1, wp_ite_t rfl]
        exact hend (by simpa using c1)
    · rw [wp_ite_f (by rw [J_lt (by omega) (by omega) (by omega) (by omega)]; omega)]
      exact hend (by rw [bt_ge (by omega)]; exact isLe0)
theorem c_num5 (hG : GK Γ) (K : rhM → Nat → Option rhM) {p : Nat} : ∀ (n : Nat) (M : rhM) (j : Nat), CB M bs → M.1 4 3 = J j → M.1 4 5 = J p → M.1 4 8 = J (nvl bs p (min 4 (j - p))) → nvl bs p (min 4 (j - p)) < 10 ^ (min 4 (j - p)) → p ≤ j → j ≤ bs.length → bs.length - j < n →
    (∀ M', Fr [4] M M' → CB M' bs → (∀ k, k ≠ 3 → k ≠ 8 → M'.1 4 k = M.1 4 k) → M'.2.1 4 = M.2.1 4 → M'.1 4 3 = J (skp isDi bs j) → M'.1 4 8 = J (nvl bs p (min 4 (skp isDi bs j - p))) → wp (K M' 4) Q) → wp (f_X8_readNumber_5 K Γ n M 4) Q := by
  intro n
  induction n with
  | zero => intro M j _ _ _ _ _ _ _ h; omega
  | succ n ih =>
    intro M j hB h3 h5 h8 hv hp hj hn hK
    obtain ⟨b0, b1, b2, b3, b4, b5, b6⟩ := id hB
    have hr := bt_rng b6 j
    rw [f_X8_readNumber_5, wp_ck_t (GKk4 hG), h3, b2, b1, h5]
    have hend : isDi (bt bs j) = false → wp (K M 4) Q := fun h => hK M (Fr.refl _ _) hB (fun _ _ _ => rfl) rfl (by rw [skp_f h]; exact h3) (by rw [skp_f h]; exact h8)
    by_cases c : j < bs.length
    · have e := Bs_bt b3 c
      rw [wp_ite_t (by rw [J_lt (by omega) (by omega) (by omega) (by omega)]; omega), wp_ck_t (GKk2 hG), wp_ck_t (by rw [J_toInt (by omega) (by omega), GKl2 hG]; omega), J_clamp (by omega) (by omega), Int.toNat_natCast, e, wp_bind, c_isDi (by omega), wp_some]
      by_cases c1 : isDi (bt bs j) = true
      · rw [if_pos c1, wp_ite_f (by decide)]
        have hs := skp_t isDi0 c1
        have hl : 48 ≤ bt bs j ∧ bt bs j ≤ 57 := by unfold isDi at c1; rw [decide_eq_true_eq] at c1; exact c1
        by_cases c2 : j - p < 4
        · have hst := nv_step (bs := bs) hp c2
          have hpw : (10 : Nat) ^ (min 4 (j + 1 - p)) = 10 ^ (min 4 (j - p)) * 10 := by rw [show min 4 (j + 1 - p) = min 4 (j - p) + 1 by omega, Nat.pow_succ]
          have hp3 : (10 : Nat) ^ (min 4 (j - p)) ≤ 10 ^ 3 := Nat.pow_le_pow_right (by decide) (by omega)
          rw [wp_ite_t (by rw [J_sub, show (4 : Int32) = J 4 from rfl, J_lt (by omega) (by omega) (by omega) (by omega)]; omega), h8, show (10 : Int32) = J 10 from rfl, show (48 : Int32) = J 48 from rfl, J_mul, J_add, J_sub, show ((nvl bs p (min 4 (j - p)) : Nat) : Int) * 10 + bt bs j - 48 = ((nvl bs p (min 4 (j + 1 - p)) : Nat) : Int) by rw [hst]; omega]
          show wp (f_X8_readNumber_68 (f_X8_readNumber_5 K Γ n) Γ (rhsi M 4 8 (J (nvl bs p (min 4 (j + 1 - p)) : Nat))) 4) Q
          rw [f_X8_readNumber_68, wp_ck_t (GKk4 hG), si_1, if_neg (by decide), h3, show (1 : Int32) = J 1 from rfl, J_add, J_suc]
          refine ih _ (j + 1) ((hB.si (by decide) _).si (by decide) _) (by rw [si_1, if_pos ⟨rfl, rfl⟩]) (by rw [si_1, if_neg (by decide), si_1, if_neg (by decide)]; exact h5) (by rw [si_1, if_neg (by decide), si_1, if_pos ⟨rfl, rfl⟩]) (by rw [hst, hpw]; omega) (by omega) (by omega) (by omega) (fun M' f1 f2 f3 f4 f5 f6 => ?_)
          refine hK M' ((((Fr.refl _ _).si (by simp) _ _).si (by simp) _ _).trans f1) f2 (fun k hk hk8 => ?_) f4 (by rw [f5, hs.2]) (by rw [f6, hs.2])
          rw [f3 k hk hk8, si_1, if_neg (by omega), si_1, if_neg (by omega)]
        · rw [wp_ite_f (by rw [J_sub, show (4 : Int32) = J 4 from rfl, J_lt (by omega) (by omega) (by omega) (by omega)]; omega), f_X8_readNumber_68, wp_ck_t (GKk4 hG), h3, show (1 : Int32) = J 1 from rfl, J_add, J_suc]
          have em : min 4 (j + 1 - p) = min 4 (j - p) := by omega
          refine ih _ (j + 1) (hB.si (by decide) _) (by rw [si_1, if_pos ⟨rfl, rfl⟩]) (by rw [si_1, if_neg (by decide)]; exact h5) (by rw [si_1, if_neg (by decide), h8, em]) (by rw [em]; exact hv) (by omega) (by omega) (by omega) (fun M' f1 f2 f3 f4 f5 f6 => ?_)
          refine hK M' (((Fr.refl _ _).si (by simp) _ _).trans f1) f2 (fun k hk hk8 => ?_) f4 (by rw [f5, hs.2]) (by rw [f6, hs.2])
          rw [f3 k hk hk8, si_1, if_neg (by omega)]
      · rw [if_neg c1, wp_ite_t rfl]
        exact hend (by simpa using c1)
    · rw [wp_ite_f (by rw [J_lt (by omega) (by omega) (by omega) (by omega)]; omega)]
      exact hend (by rw [bt_ge (by omega)]; exact isDi0)
end
