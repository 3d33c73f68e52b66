theorem RA.cp {M M' : rhM} {a oa b ob a' oa' b' ob' : Nat} {L : Ar} (h : RA M a oa b ob L) (h8 : (fl [] L).length ≤ 8) (h5 : L.length ≤ 5) (ha : ∀ i, i < 8 → M'.1 a' (oa' + i) = M.1 a (oa + i)) (hb : ∀ i, i < 5 → M'.1 b' (ob' + i) = M.1 b (ob + i)) : RA M' a' oa' b' ob' L :=
  ⟨Sg_shift oa' _ _ (fun i hi => ha i (by omega)) h.1, fun r hr => (hb r (by omega)).trans (h.2 r hr)⟩
section
variable {Γ : rhG} {M : rhM} {b : Nat} {T : Tn} {g lb : Int} {L : Ar}
theorem m_layNow2 (hG : GK Γ) (K : rhM → Nat → Option rhM) (Q : rhM → Prop) : ∀ (n : Nat) (M : rhM) (k : Nat), MR M → k ≤ 8 → 8 - k < n →
    (∀ M', Fr [128] M M' → (∀ i, M'.1 128 i = if k ≤ i ∧ i < 8 then M.1 131 i else M.1 128 i) → wp (K M' 102) Q) → wp (f_X12_layNow_2 K Γ n M 102 (J k)) Q := by
  intro n
  induction n with
  | zero => intro M k _ _ h; omega
  | succ n ih =>
    intro M k hR hk hn hK
    rw [f_X12_layNow_2]
    by_cases h : k < 8
    · simp (disch := omega) only [f_X12_layNow_2, GKk102 hG, MRf39 hR, GKk128 hG, GKl128 hG, MRf42 hR, GKk131 hG, GKl131 hG, wp_some, wp_ck_T, wp_ck_t, wp_bind, wp_ite_t, wp_ite_f, J_lit, J_neg, J_add, J_sub, J_mul, J_lt, J_le, J_eq, J_toInt, J_clamp, J_suc, si_1, si_2, sl_1, sl_2, sl_3, Int.toNat_natCast, Int.reduceToNat, Nat.add_sub_cancel, Int.toNat_add, Int.toNat_mul, Int.toNat_sub'', true_and, and_true, and_self, if_true, if_false, not_true, not_false_eq_true]
      have hF : Fr [128] M (rhsi M 128 k (M.1 131 k)) := (Fr.refl _ _).si (by simp) _ _
      refine ih _ (k + 1) hR (by omega) (by omega) (fun M' h1 h2 => hK M' (hF.trans h1) (fun i => ?_))
      rw [h2, si_1, si_1]
      by_cases e : i = k
      · rw [if_neg (by omega), if_pos ⟨rfl, e⟩, if_pos (by omega), e]
      · by_cases e2 : k + 1 ≤ i ∧ i < 8
        · rw [if_pos e2, if_neg (by omega), if_pos (by omega)]
        · rw [if_neg e2, if_neg (by omega), if_neg (by omega)]
    · simp (disch := omega) only [wp_some, wp_ck_T, wp_ck_t, wp_bind, wp_ite_t, wp_ite_f, J_lit, J_neg, J_add, J_sub, J_mul, J_lt, J_le, J_eq, J_toInt, J_clamp, J_suc, si_1, si_2, sl_1, sl_2, sl_3, Int.toNat_natCast, Int.reduceToNat, Nat.add_sub_cancel, Int.toNat_add, Int.toNat_mul, Int.toNat_sub'', true_and, and_true, and_self, if_true, if_false, not_true, not_false_eq_true]
      exact hK M (Fr.refl _ _) (fun i => by rw [if_neg (by omega)])
theorem m_layNow28 (hG : GK Γ) (Q : rhM → Prop) : ∀ (n : Nat) (M : rhM) (k : Nat), MR M → k ≤ 5 → 5 - k < n →
    (∀ M', Fr [129] M M' → (∀ i, M'.1 129 i = if k ≤ i ∧ i < 5 then M.1 132 i else M.1 129 i) → Q M') → wp (f_X12_layNow_28 Γ n M 102 (J k)) Q := by
  intro n
  induction n with
  | zero => intro M k _ _ h; omega
  | succ n ih =>
    intro M k hR hk hn hK
    rw [f_X12_layNow_28]
    by_cases h : k < 5
    · simp (disch := omega) only [f_X12_layNow_28, GKk102 hG, MRf40 hR, GKk129 hG, GKl129 hG, MRf43 hR, GKk132 hG, GKl132 hG, wp_some, wp_ck_T, wp_ck_t, wp_bind, wp_ite_t, wp_ite_f, J_lit, J_neg, J_add, J_sub, J_mul, J_lt, J_le, J_eq, J_toInt, J_clamp, J_suc, si_1, si_2, sl_1, sl_2, sl_3, Int.toNat_natCast, Int.reduceToNat, Nat.add_sub_cancel, Int.toNat_add, Int.toNat_mul, Int.toNat_sub'', true_and, and_true, and_self, if_true, if_false, not_true, not_false_eq_true]
      have hF : Fr [129] M (rhsi M 129 k (M.1 132 k)) := (Fr.refl _ _).si (by simp) _ _
      refine ih _ (k + 1) hR (by omega) (by omega) (fun M' h1 h2 => hK M' (hF.trans h1) (fun i => ?_))
      rw [h2, si_1, si_1]
      by_cases e : i = k
      · rw [if_neg (by omega), if_pos ⟨rfl, e⟩, if_pos (by omega), e]
      · by_cases e2 : k + 1 ≤ i ∧ i < 5
        · rw [if_pos e2, if_neg (by omega), if_pos (by omega)]
        · rw [if_neg e2, if_neg (by omega), if_neg (by omega)]
    · simp (disch := omega) only [wp_some, wp_ck_T, wp_ck_t, wp_bind, wp_ite_t, wp_ite_f, J_lit, J_neg, J_add, J_sub, J_mul, J_lt, J_le, J_eq, J_toInt, J_clamp, J_suc, si_1, si_2, sl_1, sl_2, sl_3, Int.toNat_natCast, Int.reduceToNat, Nat.add_sub_cancel, Int.toNat_add, Int.toNat_mul, Int.toNat_sub'', true_and, and_true, and_self, if_true, if_false, not_true, not_false_eq_true]
      exact hK M (Fr.refl _ _) (fun i => by rw [if_neg (by omega)])
theorem m_keepNow2 (hG : GK Γ) (K : rhM → Nat → Option rhM) (Q : rhM → Prop) : ∀ (n : Nat) (M : rhM) (k : Nat), MR M → k ≤ 8 → 8 - k < n →
    (∀ M', Fr [131] M M' → (∀ i, M'.1 131 i = if k ≤ i ∧ i < 8 then M.1 128 i else M.1 131 i) → wp (K M' 102) Q) → wp (f_X12_keepNow_2 K Γ n M 102 (J k)) Q := by
  intro n
  induction n with
  | zero => intro M k _ _ h; omega
  | succ n ih =>
    intro M k hR hk hn hK
    rw [f_X12_keepNow_2]
    by_cases h : k < 8
    · simp (disch := omega) only [f_X12_keepNow_2, GKk102 hG, MRf39 hR, GKk128 hG, GKl128 hG, MRf42 hR, GKk131 hG, GKl131 hG, wp_some, wp_ck_T, wp_ck_t, wp_bind, wp_ite_t, wp_ite_f, J_lit, J_neg, J_add, J_sub, J_mul, J_lt, J_le, J_eq, J_toInt, J_clamp, J_suc, si_1, si_2, sl_1, sl_2, sl_3, Int.toNat_natCast, Int.reduceToNat, Nat.add_sub_cancel, Int.toNat_add, Int.toNat_mul, Int.toNat_sub'', true_and, and_true, and_self, if_true, if_false, not_true, not_false_eq_true]
      have hF : Fr [131] M (rhsi M 131 k (M.1 128 k)) := (Fr.refl _ _).si (by simp) _ _
      refine ih _ (k + 1) hR (by omega) (by omega) (fun M' h1 h2 => hK M' (hF.trans h1) (fun i => ?_))
      rw [h2, si_1, si_1]
      by_cases e : i = k
      · rw [if_neg (by omega), if_pos ⟨rfl, e⟩, if_pos (by omega), e]
      · by_cases e2 : k + 1 ≤ i ∧ i < 8
        · rw [if_pos e2, if_neg (by omega), if_pos (by omega)]
        · rw [if_neg e2, if_neg (by omega), if_neg (by omega)]
    · simp (disch := omega) only [wp_some, wp_ck_T, wp_ck_t, wp_bind, wp_ite_t, wp_ite_f, J_lit, J_neg, J_add, J_sub, J_mul, J_lt, J_le, J_eq, J_toInt, J_clamp, J_suc, si_1, si_2, sl_1, sl_2, sl_3, Int.toNat_natCast, Int.reduceToNat, Nat.add_sub_cancel, Int.toNat_add, Int.toNat_mul, Int.toNat_sub'', true_and, and_true, and_self, if_true, if_false, not_true, not_false_eq_true]
      exact hK M (Fr.refl _ _) (fun i => by rw [if_neg (by omega)])
theorem m_keepNow28 (hG : GK Γ) (Q : rhM → Prop) : ∀ (n : Nat) (M : rhM) (k : Nat), MR M → k ≤ 5 → 5 - k < n →
    (∀ M', Fr [132] M M' → (∀ i, M'.1 132 i = if k ≤ i ∧ i < 5 then M.1 129 i else M.1 132 i) → Q M') → wp (f_X12_keepNow_28 Γ n M 102 (J k)) Q := by
  intro n
  induction n with
  | zero => intro M k _ _ h; omega
  | succ n ih =>
    intro M k hR hk hn hK
    rw [f_X12_keepNow_28]
    by_cases h : k < 5
    · simp (disch := omega) only [f_X12_keepNow_28, GKk102 hG, MRf40 hR, GKk129 hG, GKl129 hG, MRf43 hR, GKk132 hG, GKl132 hG, wp_some, wp_ck_T, wp_ck_t, wp_bind, wp_ite_t, wp_ite_f, J_lit, J_neg, J_add, J_sub, J_mul, J_lt, J_le, J_eq, J_toInt, J_clamp, J_suc, si_1, si_2, sl_1, sl_2, sl_3, Int.toNat_natCast, Int.reduceToNat, Nat.add_sub_cancel, Int.toNat_add, Int.toNat_mul, Int.toNat_sub'', true_and, and_true, and_self, if_true, if_false, not_true, not_false_eq_true]
      have hF : Fr [132] M (rhsi M 132 k (M.1 129 k)) := (Fr.refl _ _).si (by simp) _ _
      refine ih _ (k + 1) hR (by omega) (by omega) (fun M' h1 h2 => hK M' (hF.trans h1) (fun i => ?_))
      rw [h2, si_1, si_1]
      by_cases e : i = k
      · rw [if_neg (by omega), if_pos ⟨rfl, e⟩, if_pos (by omega), e]
      · by_cases e2 : k + 1 ≤ i ∧ i < 5
        · rw [if_pos e2, if_neg (by omega), if_pos (by omega)]
        · rw [if_neg e2, if_neg (by omega), if_neg (by omega)]
    · simp (disch := omega) only [wp_some, wp_ck_T, wp_ck_t, wp_bind, wp_ite_t, wp_ite_f, J_lit, J_neg, J_add, J_sub, J_mul, J_lt, J_le, J_eq, J_toInt, J_clamp, J_suc, si_1, si_2, sl_1, sl_2, sl_3, Int.toNat_natCast, Int.reduceToNat, Nat.add_sub_cancel, Int.toNat_add, Int.toNat_mul, Int.toNat_sub'', true_and, and_true, and_self, if_true, if_false, not_true, not_false_eq_true]
      exact hK M (Fr.refl _ _) (fun i => by rw [if_neg (by omega)])
theorem m_keepAt2 (hG : GK Γ) (K : rhM → Nat → Option rhM) (Q : rhM → Prop) : ∀ (n : Nat) (M : rhM) (k : Nat), MR M → k ≤ 8 → 8 - k < n →
    (∀ M', Fr [143] M M' → (∀ i, M'.1 143 i = if k ≤ i ∧ i < 8 then M.1 128 i else M.1 143 i) → wp (K M' 102) Q) → wp (f_X12_keepAt_2 K Γ n M 102 (J k)) Q := by
  intro n
  induction n with
  | zero => intro M k _ _ h; omega
  | succ n ih =>
    intro M k hR hk hn hK
    rw [f_X12_keepAt_2]
    by_cases h : k < 8
    · simp (disch := omega) only [f_X12_keepAt_2, GKk102 hG, MRf39 hR, GKk128 hG, GKl128 hG, MRf63 hR, GKk143 hG, GKl143 hG, wp_some, wp_ck_T, wp_ck_t, wp_bind, wp_ite_t, wp_ite_f, J_lit, J_neg, J_add, J_sub, J_mul, J_lt, J_le, J_eq, J_toInt, J_clamp, J_suc, si_1, si_2, sl_1, sl_2, sl_3, Int.toNat_natCast, Int.reduceToNat, Nat.add_sub_cancel, Int.toNat_add, Int.toNat_mul, Int.toNat_sub'', true_and, and_true, and_self, if_true, if_false, not_true, not_false_eq_true]
      have hF : Fr [143] M (rhsi M 143 k (M.1 128 k)) := (Fr.refl _ _).si (by simp) _ _
      refine ih _ (k + 1) hR (by omega) (by omega) (fun M' h1 h2 => hK M' (hF.trans h1) (fun i => ?_))
      rw [h2, si_1, si_1]
      by_cases e : i = k
      · rw [if_neg (by omega), if_pos ⟨rfl, e⟩, if_pos (by omega), e]
      · by_cases e2 : k + 1 ≤ i ∧ i < 8
        · rw [if_pos e2, if_neg (by omega), if_pos (by omega)]
        · rw [if_neg e2, if_neg (by omega), if_neg (by omega)]
    · simp (disch := omega) only [wp_some, wp_ck_T, wp_ck_t, wp_bind, wp_ite_t, wp_ite_f, J_lit, J_neg, J_add, J_sub, J_mul, J_lt, J_le, J_eq, J_toInt, J_clamp, J_suc, si_1, si_2, sl_1, sl_2, sl_3, Int.toNat_natCast, Int.reduceToNat, Nat.add_sub_cancel, Int.toNat_add, Int.toNat_mul, Int.toNat_sub'', true_and, and_true, and_self, if_true, if_false, not_true, not_false_eq_true]
      exact hK M (Fr.refl _ _) (fun i => by rw [if_neg (by omega)])
theorem m_keepAt28 (hG : GK Γ) (Q : rhM → Prop) : ∀ (n : Nat) (M : rhM) (k : Nat), MR M → k ≤ 5 → 5 - k < n →
    (∀ M', Fr [144] M M' → (∀ i, M'.1 144 i = if k ≤ i ∧ i < 5 then M.1 129 i else M.1 144 i) → Q M') → wp (f_X12_keepAt_28 Γ n M 102 (J k)) Q := by
  intro n
  induction n with
  | zero => intro M k _ _ h; omega
  | succ n ih =>
    intro M k hR hk hn hK
    rw [f_X12_keepAt_28]
    by_cases h : k < 5
    · simp (disch := omega) only [f_X12_keepAt_28, GKk102 hG, MRf40 hR, GKk129 hG, GKl129 hG, MRf64 hR, GKk144 hG, GKl144 hG, wp_some, wp_ck_T, wp_ck_t, wp_bind, wp_ite_t, wp_ite_f, J_lit, J_neg, J_add, J_sub, J_mul, J_lt, J_le, J_eq, J_toInt, J_clamp, J_suc, si_1, si_2, sl_1, sl_2, sl_3, Int.toNat_natCast, Int.reduceToNat, Nat.add_sub_cancel, Int.toNat_add, Int.toNat_mul, Int.toNat_sub'', true_and, and_true, and_self, if_true, if_false, not_true, not_false_eq_true]
      have hF : Fr [144] M (rhsi M 144 k (M.1 129 k)) := (Fr.refl _ _).si (by simp) _ _
      refine ih _ (k + 1) hR (by omega) (by omega) (fun M' h1 h2 => hK M' (hF.trans h1) (fun i => ?_))
      rw [h2, si_1, si_1]
      by_cases e : i = k
      · rw [if_neg (by omega), if_pos ⟨rfl, e⟩, if_pos (by omega), e]
      · by_cases e2 : k + 1 ≤ i ∧ i < 5
        · rw [if_pos e2, if_neg (by omega), if_pos (by omega)]
        · rw [if_neg e2, if_neg (by omega), if_neg (by omega)]
    · simp (disch := omega) only [wp_some, wp_ck_T, wp_ck_t, wp_bind, wp_ite_t, wp_ite_f, J_lit, J_neg, J_add, J_sub, J_mul, J_lt, J_le, J_eq, J_toInt, J_clamp, J_suc, si_1, si_2, sl_1, sl_2, sl_3, Int.toNat_natCast, Int.reduceToNat, Nat.add_sub_cancel, Int.toNat_add, Int.toNat_mul, Int.toNat_sub'', true_and, and_true, and_self, if_true, if_false, not_true, not_false_eq_true]
      exact hK M (Fr.refl _ _) (fun i => by rw [if_neg (by omega)])
theorem m_layAt2 (hG : GK Γ) (K : rhM → Nat → Option rhM) (Q : rhM → Prop) : ∀ (n : Nat) (M : rhM) (k : Nat), MR M → k ≤ 8 → 8 - k < n →
    (∀ M', Fr [128] M M' → (∀ i, M'.1 128 i = if k ≤ i ∧ i < 8 then M.1 143 i else M.1 128 i) → wp (K M' 102) Q) → wp (f_X12_layAt_2 K Γ n M 102 (J k)) Q := by
  intro n
  induction n with
  | zero => intro M k _ _ h; omega
  | succ n ih =>
    intro M k hR hk hn hK
    rw [f_X12_layAt_2]
    by_cases h : k < 8
    · simp (disch := omega) only [f_X12_layAt_2, GKk102 hG, MRf39 hR, GKk128 hG, GKl128 hG, MRf63 hR, GKk143 hG, GKl143 hG, wp_some, wp_ck_T, wp_ck_t, wp_bind, wp_ite_t, wp_ite_f, J_lit, J_neg, J_add, J_sub, J_mul, J_lt, J_le, J_eq, J_toInt, J_clamp, J_suc, si_1, si_2, sl_1, sl_2, sl_3, Int.toNat_natCast, Int.reduceToNat, Nat.add_sub_cancel, Int.toNat_add, Int.toNat_mul, Int.toNat_sub'', true_and, and_true, and_self, if_true, if_false, not_true, not_false_eq_true]
      have hF : Fr [128] M (rhsi M 128 k (M.1 143 k)) := (Fr.refl _ _).si (by simp) _ _
      refine ih _ (k + 1) hR (by omega) (by omega) (fun M' h1 h2 => hK M' (hF.trans h1) (fun i => ?_))
      rw [h2, si_1, si_1]
      by_cases e : i = k
      · rw [if_neg (by omega), if_pos ⟨rfl, e⟩, if_pos (by omega), e]
      · by_cases e2 : k + 1 ≤ i ∧ i < 8
        · rw [if_pos e2, if_neg (by omega), if_pos (by omega)]
        · rw [if_neg e2, if_neg (by omega), if_neg (by omega)]
    · simp (disch := omega) only [wp_some, wp_ck_T, wp_ck_t, wp_bind, wp_ite_t, wp_ite_f, J_lit, J_neg, J_add, J_sub, J_mul, J_lt, J_le, J_eq, J_toInt, J_clamp, J_suc, si_1, si_2, sl_1, sl_2, sl_3, Int.toNat_natCast, Int.reduceToNat, Nat.add_sub_cancel, Int.toNat_add, Int.toNat_mul, Int.toNat_sub'', true_and, and_true, and_self, if_true, if_false, not_true, not_false_eq_true]
      exact hK M (Fr.refl _ _) (fun i => by rw [if_neg (by omega)])
theorem m_layAt28 (hG : GK Γ) (Q : rhM → Prop) : ∀ (n : Nat) (M : rhM) (k : Nat), MR M → k ≤ 5 → 5 - k < n →
    (∀ M', Fr [129] M M' → (∀ i, M'.1 129 i = if k ≤ i ∧ i < 5 then M.1 144 i else M.1 129 i) → Q M') → wp (f_X12_layAt_28 Γ n M 102 (J k)) Q := by
  intro n
  induction n with
  | zero => intro M k _ _ h; omega
  | succ n ih =>
    intro M k hR hk hn hK
    rw [f_X12_layAt_28]
    by_cases h : k < 5
    · simp (disch := omega) only [f_X12_layAt_28, GKk102 hG, MRf40 hR, GKk129 hG, GKl129 hG, MRf64 hR, GKk144 hG, GKl144 hG, wp_some, wp_ck_T, wp_ck_t, wp_bind, wp_ite_t, wp_ite_f, J_lit, J_neg, J_add, J_sub, J_mul, J_lt, J_le, J_eq, J_toInt, J_clamp, J_suc, si_1, si_2, sl_1, sl_2, sl_3, Int.toNat_natCast, Int.reduceToNat, Nat.add_sub_cancel, Int.toNat_add, Int.toNat_mul, Int.toNat_sub'', true_and, and_true, and_self, if_true, if_false, not_true, not_false_eq_true]
      have hF : Fr [129] M (rhsi M 129 k (M.1 144 k)) := (Fr.refl _ _).si (by simp) _ _
      refine ih _ (k + 1) hR (by omega) (by omega) (fun M' h1 h2 => hK M' (hF.trans h1) (fun i => ?_))
      rw [h2, si_1, si_1]
      by_cases e : i = k
      · rw [if_neg (by omega), if_pos ⟨rfl, e⟩, if_pos (by omega), e]
      · by_cases e2 : k + 1 ≤ i ∧ i < 5
        · rw [if_pos e2, if_neg (by omega), if_pos (by omega)]
        · rw [if_neg e2, if_neg (by omega), if_neg (by omega)]
    · simp (disch := omega) only [wp_some, wp_ck_T, wp_ck_t, wp_bind, wp_ite_t, wp_ite_f, J_lit, J_neg, J_add, J_sub, J_mul, J_lt, J_le, J_eq, J_toInt, J_clamp, J_suc, si_1, si_2, sl_1, sl_2, sl_3, Int.toNat_natCast, Int.reduceToNat, Nat.add_sub_cancel, Int.toNat_add, Int.toNat_mul, Int.toNat_sub'', true_and, and_true, and_self, if_true, if_false, not_true, not_false_eq_true]
      exact hK M (Fr.refl _ _) (fun i => by rw [if_neg (by omega)])
theorem m_layNow (hG : GK Γ) (hR : MR M) (hA : RA M 131 0 132 0 L) (h8 : (fl [] L).length ≤ 8) (h5 : L.length ≤ 5) : wp (f_X12_layNow Γ M 102) (fun M' => Fr [128, 129] M M' ∧ RA M' 128 0 129 0 L) := by
  rw [f_X12_layNow]
  refine m_layNow2 hG _ _ rhFU M 0 hR (by omega) (by have := FU_big; omega) (fun M1 hF1 h1 => ?_)
  rw [f_X12_layNow_26]
  refine m_layNow28 hG _ rhFU M1 0 (hR.fr hF1) (by omega) (by have := FU_big; omega) (fun M2 hF2 h2 => ⟨(hF1.sub (by decide)).trans (hF2.sub (by decide)), ?_⟩)
  refine hA.cp h8 h5 (fun i hi => ?_) (fun i hi => ?_)
  · rw [hF2.i (by decide), h1, Nat.zero_add, if_pos (by omega)]
  · rw [h2, Nat.zero_add, if_pos (by omega), hF1.i (by decide)]
theorem m_keepNow (hG : GK Γ) (hR : MR M) (hA : RA M 128 0 129 0 L) (h8 : (fl [] L).length ≤ 8) (h5 : L.length ≤ 5) : wp (f_X12_keepNow Γ M 102) (fun M' => Fr [131, 132] M M' ∧ RA M' 131 0 132 0 L) := by
  rw [f_X12_keepNow]
  refine m_keepNow2 hG _ _ rhFU M 0 hR (by omega) (by have := FU_big; omega) (fun M1 hF1 h1 => ?_)
  rw [f_X12_keepNow_26]
  refine m_keepNow28 hG _ rhFU M1 0 (hR.fr hF1) (by omega) (by have := FU_big; omega) (fun M2 hF2 h2 => ⟨(hF1.sub (by decide)).trans (hF2.sub (by decide)), ?_⟩)
  refine hA.cp h8 h5 (fun i hi => ?_) (fun i hi => ?_)
  · rw [hF2.i (by decide), h1, Nat.zero_add, if_pos (by omega)]
  · rw [h2, Nat.zero_add, if_pos (by omega), hF1.i (by decide)]
theorem m_keepAt (hG : GK Γ) (hR : MR M) (hA : RA M 128 0 129 0 L) (h8 : (fl [] L).length ≤ 8) (h5 : L.length ≤ 5) : wp (f_X12_keepAt Γ M 102) (fun M' => Fr [143, 144] M M' ∧ RA M' 143 0 144 0 L) := by
  rw [f_X12_keepAt]
  refine m_keepAt2 hG _ _ rhFU M 0 hR (by omega) (by have := FU_big; omega) (fun M1 hF1 h1 => ?_)
  rw [f_X12_keepAt_26]
  refine m_keepAt28 hG _ rhFU M1 0 (hR.fr hF1) (by omega) (by have := FU_big; omega) (fun M2 hF2 h2 => ⟨(hF1.sub (by decide)).trans (hF2.sub (by decide)), ?_⟩)
  refine hA.cp h8 h5 (fun i hi => ?_) (fun i hi => ?_)
  · rw [hF2.i (by decide), h1, Nat.zero_add, if_pos (by omega)]
  · rw [h2, Nat.zero_add, if_pos (by omega), hF1.i (by decide)]
theorem m_layAt (hG : GK Γ) (hR : MR M) (hA : RA M 143 0 144 0 L) (h8 : (fl [] L).length ≤ 8) (h5 : L.length ≤ 5) : wp (f_X12_layAt Γ M 102) (fun M' => Fr [128, 129] M M' ∧ RA M' 128 0 129 0 L) := by
  rw [f_X12_layAt]
  refine m_layAt2 hG _ _ rhFU M 0 hR (by omega) (by have := FU_big; omega) (fun M1 hF1 h1 => ?_)
  rw [f_X12_layAt_26]
  refine m_layAt28 hG _ rhFU M1 0 (hR.fr hF1) (by omega) (by have := FU_big; omega) (fun M2 hF2 h2 => ⟨(hF1.sub (by decide)).trans (hF2.sub (by decide)), ?_⟩)
  refine hA.cp h8 h5 (fun i hi => ?_) (fun i hi => ?_)
  · rw [hF2.i (by decide), h1, Nat.zero_add, if_pos (by omega)]
  · rw [h2, Nat.zero_add, if_pos (by omega), hF1.i (by decide)]
/-! the worth -/
theorem m_worth4 (hG : GK Γ) (hR : MR M) (hT : TM M b T g lb) (hw : TWf T) {E : Nat} (hr : 0 < tR T) (hE : M.1 129 0 = J E) (hE8 : E ≤ 8) : ∀ (l : List Nat) (x : Nat) (n p : Nat) (acc : Int), M.1 128 p = J x → x < tH T → Sg (M.1 128) (p + 1) l → p + 1 + l.length = E → (∀ h, h ∈ l → h < tH T) → l.length < n →
    f_X12_worthOfRow_4 Γ M n 102 (J acc) (J ((p + 1 : Nat) : Int)) = some (J (acc + worthL (tW T) (x :: l))) := by
  intro l
  have hRM := m_railMany hG hR hT
  have hb := hT.1
  have e34 := hT.2.1
  have e116 := hT.2.2.2.2.2.2.2.2.2.2.2.2.2.2.2.2.2.2.2.1
  have w2 := hw.2.1
  have w1 := hw.1
  induction l with
  | nil =>
    intro x n p acc h1 hx hs he hm hn
    obtain ⟨n, rfl⟩ : ∃ k, n = k + 1 := ⟨n - 1, by simp only [List.length_nil] at hn; omega⟩
    simp only [List.length_nil] at he
    apply wp_eq
    rw [f_X12_worthOfRow_4]
    simp (disch := omega) only [wp_some, wp_ck_T, wp_ck_t, wp_bind, wp_ite_t, wp_ite_f, J_lit, J_neg, J_add, J_sub, J_mul, J_lt, J_le, J_eq, J_toInt, J_clamp, J_suc, si_1, si_2, sl_1, sl_2, sl_3, Int.toNat_natCast, Int.reduceToNat, Nat.add_sub_cancel, Int.toNat_add, Int.toNat_mul, Int.toNat_sub'', true_and, and_true, and_self, if_true, if_false, not_true, not_false_eq_true, GKk102 hG, hRM, MRf40 hR, GKk129 hG, GKl129 hG, hE, worthL]
    simp
  | cons y l ih =>
    intro x n p acc h1 hx hs he hm hn
    obtain ⟨n, rfl⟩ : ∃ k, n = k + 1 := ⟨n - 1, by rw [List.length_cons] at hn; omega⟩
    rw [List.length_cons] at he hn
    have hy := hm y List.mem_cons_self
    apply wp_eq
    rw [f_X12_worthOfRow_4]
    have hi := ih y n (p + 1) (acc + tW T x y) hs.1 hy hs.2 (by omega) (fun h hh => hm h (List.mem_cons_of_mem _ hh)) (by omega)
    have e1 : ((p + 1 : Nat) : Int) - 1 = p := by omega
    have e2 := e116 x y hx hy
    simp (disch := omega) only [wp_some, wp_ck_T, wp_ck_t, wp_bind, wp_ite_t, wp_ite_f, J_lit, J_neg, J_add, J_sub, J_mul, J_lt, J_le, J_eq, J_toInt, J_clamp, J_suc, si_1, si_2, sl_1, sl_2, sl_3, Int.toNat_natCast, Int.reduceToNat, Nat.add_sub_cancel, Int.toNat_add, Int.toNat_mul, Int.toNat_sub'', true_and, and_true, and_self, if_true, if_false, not_true, not_false_eq_true, GKk102 hG, hRM, MRf40 hR, MRf39 hR, MRf22 hR, GKk129 hG, GKl129 hG, GKk128 hG, GKl128 hG, GKk116 hG, GKl116 hG, hE, h1, hs.1, e1, e34, e2, hi, worthL]
    congr 1; omega
theorem m_worth (hG : GK Γ) (hR : MR M) (hT : TM M b T g lb) (hw : TWf T) (hA : RA M 128 0 129 0 L) (wL : WA (tR T) (tH T) L) : f_X12_worthOfRow Γ M 102 = some (J (worth T L)) := by
  have hRM := m_railMany hG hR hT
  have hFU := FU_big
  obtain ⟨N, hN⟩ : ∃ N, rhFU = N + 1 := ⟨rhFU - 1, by omega⟩
  have w1 := hw.1
  have w2 := hw.2.1
  rw [f_X12_worthOfRow]
  by_cases h0 : tR T = 0
  · have : rl L 0 = [] := by
      have := wL.1
      rw [h0] at this
      rw [List.length_eq_zero_iff.mp this, rl_nil]
    unfold worth
    rw [this, hN]
    apply wp_eq
    rw [f_X12_worthOfRow_4]
    simp (disch := omega) only [wp_some, wp_ck_T, wp_ck_t, wp_bind, wp_ite_t, wp_ite_f, J_lit, J_neg, J_add, J_sub, J_mul, J_lt, J_le, J_eq, J_toInt, J_clamp, J_suc, si_1, si_2, sl_1, sl_2, sl_3, Int.toNat_natCast, Int.reduceToNat, Nat.add_sub_cancel, Int.toNat_add, Int.toNat_mul, Int.toNat_sub'', true_and, and_true, and_self, if_true, if_false, not_true, not_false_eq_true, GKk102 hG, hRM, worthL]
  · have h1 := hA.2 0 (by rw [wL.1]; omega)
    rw [Nat.zero_add] at h1
    have h2 := Sg_rl hA.1 (r := 0) (by rw [wL.1]; omega)
    have h3 : cum L 1 = (rl L 0).length := by rw [cum_succ]; simp [cum]
    have h4 := wL.rl_len (r := 0) (by omega)
    have h5 : ∀ h, h ∈ rl L 0 → h < tH T := fun h hh => wL.lt.mp (rl_sub hh)
    simp only [Nat.zero_add, cum] at h2 h1
    unfold worth
    cases hl : rl L 0 with
    | nil =>
      rw [hl] at h3 h1
      rw [hN]
      apply wp_eq
      rw [f_X12_worthOfRow_4]
      simp only [List.length_nil] at h1
      simp (disch := omega) only [wp_some, wp_ck_T, wp_ck_t, wp_bind, wp_ite_t, wp_ite_f, J_lit, J_neg, J_add, J_sub, J_mul, J_lt, J_le, J_eq, J_toInt, J_clamp, J_suc, si_1, si_2, sl_1, sl_2, sl_3, Int.toNat_natCast, Int.reduceToNat, Nat.add_sub_cancel, Int.toNat_add, Int.toNat_mul, Int.toNat_sub'', true_and, and_true, and_self, if_true, if_false, not_true, not_false_eq_true, GKk102 hG, hRM, MRf40 hR, GKk129 hG, GKl129 hG, h1, worthL]
    | cons x l =>
      rw [hl] at h2 h3 h4 h5 h1
      have := m_worth4 hG hR hT hw (by omega) (E := l.length + 1) (by rw [h1]; congr 1) (by rw [List.length_cons] at h4; omega) l x rhFU 0 0 h2.1 (h5 x List.mem_cons_self) h2.2 (by omega) (fun h hh => h5 h (List.mem_cons_of_mem _ hh)) (by rw [List.length_cons] at h4; omega)
      rw [Int.zero_add] at this
      exact this
/-! how the houses stand at first -/
theorem Sg_of_rl {f : Nat → Int32} : ∀ (L : Ar) (q : Nat), (∀ r, r < L.length → Sg f (q + cum L r) (rl L r)) → Sg f q (fl [] L)
  | [], _, _ => trivial
  | x :: L, q, h => by
    rw [fl_cons, List.nil_append, Sg_app]
    refine ⟨by have := h 0 (by simp); rwa [rl_zero] at this, Sg_of_rl L _ (fun r hr => ?_)⟩
    have := h (r + 1) (by simpa using hr)
    rw [rl_succ, cum_cons, ← Nat.add_assoc] at this; exact this
theorem fst_len (T : Tn) : (fst T).length = tR T := by simp [fst]
theorem fst_rl (T : Tn) {r : Nat} (h : r < tR T) : rl (fst T) r = (List.range (tH T)).filter fun h => tF T h == r := by
  rw [rl, fst, List.getD_eq_getElem?_getD, List.getElem?_map, List.getElem?_range h]; rfl
theorem fst_WA (T : Tn) (hw : TWf T) : WA (tR T) (tH T) (fst T) := by
  refine ⟨fst_len T, List.perm_iff_count.mpr (fun a => ?_)⟩
  have key : ∀ R, (fl [] ((List.range R).map fun r => (List.range (tH T)).filter fun h => tF T h == r)).count a = if tF T a < R then (List.range (tH T)).count a else 0 := by
    intro R
    induction R with
    | zero => simp [fl]
    | succ R ih =>
      rw [List.range_succ, List.map_append, fl_app, List.count_append, ih]
      simp only [List.map_cons, List.map_nil, fl_cons, fl_nil, List.nil_append, List.append_nil]
      by_cases e : tF T a = R
      · rw [List.count_filter (by simp [e]), if_neg (by omega), if_pos (by omega)]; omega
      · rw [List.count_eq_zero_of_not_mem (l := (List.range (tH T)).filter _) (by simp [List.mem_filter, e])]
        by_cases e2 : tF T a < R
        · rw [if_pos e2, if_pos (by omega)]; omega
        · rw [if_neg e2, if_neg (by omega)]
  rw [fst, key]
  by_cases h : a < tH T
  · rw [if_pos (hw.2.2.2.2.2.1 a h).2.2.2.2]
  · rw [List.count_eq_zero_of_not_mem (l := List.range (tH T)) (by simpa using h)]; split <;> rfl
theorem m_first14 (hG : GK Γ) (hw : TWf T) {r : Nat} (K : rhM → Nat → Int32 → Int32 → Option rhM) (Q : rhM → Prop) : ∀ (d n : Nat) (M : rhM) (h p : Nat), MR M → TM M b T g lb → h + d = tH T → d < n → p + ((List.range' h d).filter fun h => tF T h == r).length ≤ 8 → 
    (∀ M', Fr [128] M M' → Sg (M'.1 128) p ((List.range' h d).filter fun h => tF T h == r) → (∀ i, i < p → M'.1 128 i = M.1 128 i) → wp (K M' 102 (J ((p + ((List.range' h d).filter fun h => tF T h == r).length : Nat) : Int)) (J r)) Q) →
    r < 8 → wp (f_X12_layFirst_14 K Γ n M 102 (J p) (J r) (J h)) Q := by
  intro d
  have w2 := hw.2.1
  induction d with
  | zero =>
    intro n M h p hR hT hd hn hp hK hr
    obtain ⟨n, rfl⟩ : ∃ k, n = k + 1 := ⟨n - 1, by omega⟩
    have hHM := m_houseMany hG hR hT
    rw [f_X12_layFirst_14]
    simp (disch := omega) only [wp_some, wp_ck_T, wp_ck_t, wp_bind, wp_ite_t, wp_ite_f, J_lit, J_neg, J_add, J_sub, J_mul, J_lt, J_le, J_eq, J_toInt, J_clamp, J_suc, si_1, si_2, sl_1, sl_2, sl_3, Int.toNat_natCast, Int.reduceToNat, Nat.add_sub_cancel, Int.toNat_add, Int.toNat_mul, Int.toNat_sub'', true_and, and_true, and_self, if_true, if_false, not_true, not_false_eq_true, GKk102 hG, hHM]
    exact hK M (Fr.refl _ _) trivial (fun _ _ => rfl)
  | succ d ih =>
    intro n M h p hR hT hd hn hp hK hr
    obtain ⟨n, rfl⟩ : ∃ k, n = k + 1 := ⟨n - 1, by omega⟩
    have hHM := m_houseMany hG hR hT
    have hb := hT.1
    have e34 := hT.2.1
    have e115 := hT.2.2.2.2.2.2.2.2.2.2.2.2.2.2.2.2.2.2.1 h (by omega)
    have hf := hw.2.2.2.2.2.1 h (by omega)
    have w1 := hw.1
    rw [List.range'_succ, List.filter_cons] at hp hK
    rw [f_X12_layFirst_14]
    by_cases e : tF T h = r
    · rw [if_pos (by simp [e])] at hp hK
      rw [List.length_cons] at hp
      simp (disch := omega) only [f_X12_layFirst_14, GKk102 hG, MRf21 hR, GKk115 hG, GKl115 hG, MRf39 hR, GKk128 hG, GKl128 hG, f_X12_layFirst_53, wp_some, wp_ck_T, wp_ck_t, wp_bind, wp_ite_t, wp_ite_f, J_lit, J_neg, J_add, J_sub, J_mul, J_lt, J_le, J_eq, J_toInt, J_clamp, J_suc, si_1, si_2, sl_1, sl_2, sl_3, Int.toNat_natCast, Int.reduceToNat, Nat.add_sub_cancel, Int.toNat_add, Int.toNat_mul, Int.toNat_sub'', true_and, and_true, and_self, if_true, if_false, not_true, not_false_eq_true, hHM, e34, e115]
      have hF : Fr [128] M (rhsi M 128 p (J h)) := (Fr.refl _ _).si (by simp) _ _
      refine ih n _ (h + 1) (p + 1) hR (hT.fr hF rfl rfl rfl (by decide)) (by omega) (by omega) (by omega) (fun M' h1 h2 h3 => ?_) hr
      have := hK M' (hF.trans h1) ⟨by rw [h3 _ (by omega), si_1, if_pos ⟨rfl, rfl⟩], h2⟩ (fun i hi => by rw [h3 _ (by omega), si_1, if_neg (by omega)])
      rw [List.length_cons, show ∀ x : Nat, p + (x + 1) = p + 1 + x by omega] at this
      exact this
    · rw [if_neg (by simp [e])] at hp hK
      simp (disch := omega) only [f_X12_layFirst_14, GKk102 hG, MRf21 hR, GKk115 hG, GKl115 hG, MRf39 hR, GKk128 hG, GKl128 hG, f_X12_layFirst_53, wp_some, wp_ck_T, wp_ck_t, wp_bind, wp_ite_t, wp_ite_f, J_lit, J_neg, J_add, J_sub, J_mul, J_lt, J_le, J_eq, J_toInt, J_clamp, J_suc, si_1, si_2, sl_1, sl_2, sl_3, Int.toNat_natCast, Int.reduceToNat, Nat.add_sub_cancel, Int.toNat_add, Int.toNat_mul, Int.toNat_sub'', true_and, and_true, and_self, if_true, if_false, not_true, not_false_eq_true, hHM, e34, e115]
      exact ih n M (h + 1) p hR hT (by omega) (by omega) hp hK hr
theorem m_first4 (hG : GK Γ) (hw : TWf T) : ∀ (d n : Nat) (M : rhM) (r : Nat), MR M → TM M b T g lb → r + d = tR T → d < n →
    (∀ r', r' < r → Sg (M.1 128) (cum (fst T) r') (rl (fst T) r') ∧ M.1 129 r' = J (cum (fst T) (r' + 1))) →
    wp (f_X12_layFirst_4 Γ n M 102 (J (cum (fst T) r)) (J r)) (fun M' => Fr [128, 129] M M' ∧ RA M' 128 0 129 0 (fst T)) := by
  intro d
  have w1 := hw.1
  have w2 := hw.2.1
  have wL := fst_WA T hw
  induction d with
  | zero =>
    intro n M r hR hT hd hn hI
    obtain ⟨n, rfl⟩ : ∃ k, n = k + 1 := ⟨n - 1, by omega⟩
    have hRM := m_railMany hG hR hT
    rw [f_X12_layFirst_4]
    simp (disch := omega) only [wp_some, wp_ck_T, wp_ck_t, wp_bind, wp_ite_t, wp_ite_f, J_lit, J_neg, J_add, J_sub, J_mul, J_lt, J_le, J_eq, J_toInt, J_clamp, J_suc, si_1, si_2, sl_1, sl_2, sl_3, Int.toNat_natCast, Int.reduceToNat, Nat.add_sub_cancel, Int.toNat_add, Int.toNat_mul, Int.toNat_sub'', true_and, and_true, and_self, if_true, if_false, not_true, not_false_eq_true, GKk102 hG, hRM]
    refine ⟨Fr.refl _ _, Sg_of_rl _ _ (fun r' hr => ?_), fun r' hr => ?_⟩
    · rw [Nat.zero_add]; exact (hI r' (by rw [wL.1] at hr; omega)).1
    · rw [Nat.zero_add]; exact (hI r' (by rw [wL.1] at hr; omega)).2
  | succ d ih =>
    intro n M r hR hT hd hn hI
    obtain ⟨n, rfl⟩ : ∃ k, n = k + 1 := ⟨n - 1, by omega⟩
    have hRM := m_railMany hG hR hT
    have hc := wL.le (r := r + 1) (by omega)
    have hr := fst_rl T (r := r) (by omega)
    rw [List.range_eq_range'] at hr
    have hc2 : cum (fst T) (r + 1) = cum (fst T) r + (rl (fst T) r).length := cum_succ _ _
    rw [f_X12_layFirst_4]
    simp (disch := omega) only [wp_some, wp_ck_T, wp_ck_t, wp_bind, wp_ite_t, wp_ite_f, J_lit, J_neg, J_add, J_sub, J_mul, J_lt, J_le, J_eq, J_toInt, J_clamp, J_suc, si_1, si_2, sl_1, sl_2, sl_3, Int.toNat_natCast, Int.reduceToNat, Nat.add_sub_cancel, Int.toNat_add, Int.toNat_mul, Int.toNat_sub'', true_and, and_true, and_self, if_true, if_false, not_true, not_false_eq_true, GKk102 hG, hRM]
    refine m_first14 hG hw _ _ (tH T) rhFU M 0 (cum (fst T) r) hR hT (by omega) (by have := FU_big; omega) (by rw [← hr]; omega) (fun M1 hF1 h1 h2 => ?_) (by omega)
    rw [← hr, ← hc2, f_X12_layFirst_59]
    rw [← hr] at h1
    simp (disch := omega) only [wp_some, wp_ck_T, wp_ck_t, wp_bind, wp_ite_t, wp_ite_f, J_lit, J_neg, J_add, J_sub, J_mul, J_lt, J_le, J_eq, J_toInt, J_clamp, J_suc, si_1, si_2, sl_1, sl_2, sl_3, Int.toNat_natCast, Int.reduceToNat, Nat.add_sub_cancel, Int.toNat_add, Int.toNat_mul, Int.toNat_sub'', true_and, and_true, and_self, if_true, if_false, not_true, not_false_eq_true, GKk102 hG, MRf40 (hR.fr hF1), GKk129 hG, GKl129 hG]
    have hF2 : Fr [129] M1 (rhsi M1 129 r (J (cum (fst T) (r + 1)))) := (Fr.refl _ _).si (by simp) _ _
    have hF3 : Fr [128, 129] M (rhsi M1 129 r (J (cum (fst T) (r + 1)))) := (hF1.sub (by decide)).trans (hF2.sub (by decide))
    refine (ih n _ (r + 1) (hR.fr hF3) ((hT.fr hF1 (by rw [hF1.i (by decide)]) (by rw [hF1.i (by decide)]) (by rw [hF1.i (by decide)]) (by decide)).fr hF2 rfl rfl rfl (by decide)) (by omega) (by omega) (fun r' hr' => ?_)).mono (fun M' h => ⟨hF3.trans h.1, h.2⟩)
    have hm := cum_mono (fst T) (show r' + 1 ≤ r + 1 by omega)
    rw [hF2.i (by decide)]
    by_cases e : r' = r
    · subst e
      exact ⟨h1, by rw [si_1, if_pos ⟨rfl, rfl⟩]⟩
    · have h3 := hI r' (by omega)
      have hm2 := cum_mono (fst T) (show r' + 1 ≤ r by omega)
      rw [cum_succ] at hm2
      exact ⟨Sg_cong _ _ (fun i _ hi => h2 i (by omega)) h3.1, by rw [si_1, if_neg (by omega), hF1.i (by decide)]; exact h3.2⟩
theorem m_layFirst (hG : GK Γ) (hR : MR M) (hT : TM M b T g lb) (hw : TWf T) : wp (f_X12_layFirst Γ M 102) (fun M' => Fr [128, 129] M M' ∧ RA M' 128 0 129 0 (fst T)) := by
  rw [f_X12_layFirst]
  exact m_first4 hG hw (tR T) rhFU M 0 hR hT (by omega) (by have := hw.1; have := FU_big; omega) (fun r' h => by omega)
end
