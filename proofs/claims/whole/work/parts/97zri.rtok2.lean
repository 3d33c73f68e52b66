section
variable {Γ : rhG} {M : rhM} {bs : List Int32} {Q : rhM → Prop}
theorem r_go8 (hG : GK Γ) (K : rhM → Nat → Option rhM) : ∀ (n : Nat) (M : rhM) (i : Nat), MR M → RB M bs → M.1 102 6 = J i → i ≤ bs.length → bs.length - i < n →
    (∀ M', Fr [102] M M' → RB M' bs → (∀ k, k ≠ 6 → M'.1 102 k = M.1 102 k) → M'.1 102 6 = J (qp bs i) → wp (K M' 102) Q) → wp (f_X12_goOn_8 K Γ n M 102) Q := by
  intro n
  induction n with
  | zero => intro M i _ _ _ _ h; omega
  | succ n ih =>
    intro M i hR hB h6 hi hn hK
    obtain ⟨b0, b1, b2, b3⟩ := id hB
    have hr := bt_rng b3 i
    have hu := ut_rng hr
    have hP := ut_P hr
    rw [f_X12_goOn_8, wp_ck_t (GKk102 hG), h6, b0]
    have hend : isBl (bt bs i) = false → wp (K M 102) Q := fun h => hK M (Fr.refl _ _) hB (fun _ _ => rfl) (by unfold qp; rw [skp_f h]; exact h6)
    by_cases c : i < bs.length
    · have hgo : isBl (bt bs i) = true → wp (f_X12_goOn_45 (f_X12_goOn_8 K Γ n) Γ M 102) Q := fun h => by
        have hs := skp_t isBl0 h
        rw [f_X12_goOn_45, wp_ck_t (GKk102 hG), h6, show (1 : Int32) = J 1 from rfl, J_add, J_suc]
        have F := (Fr.refl [102] M).si (r := 102) (by simp) 6 (J ((i + 1 : Nat) : Int))
        refine ih _ (i + 1) (hR.fr F) (hB.si (by decide) _) (by rw [si_1, if_pos ⟨rfl, rfl⟩]) (by omega) (by omega) (fun M' f1 f2 f3 f5 => ?_)
        refine hK M' (F.trans f1) f2 (fun k hk => ?_) ?_
        · rw [f3 k hk, si_1, if_neg (by omega)]
        · rw [f5]; unfold qp; rw [hs.2]
      rw [wp_ite_t (by rw [J_lt (by omega) (by omega) (by omega) (by omega)]; omega), wp_bind, r_sign hG hR hB (by omega), wp_some]
      by_cases c1 : bt bs i = 32
      · rw [wp_ite_t (by rw [show (32 : Int32) = J 32 from rfl, J_eq (by omega) (by omega) (by omega) (by omega)]; exact (hP.2.2.2 32 (by omega) (by omega)).mpr c1)]
        exact hgo (by unfold isBl; rw [decide_eq_true_eq]; exact Or.inl c1)
      · rw [wp_ite_f (by rw [show (32 : Int32) = J 32 from rfl, J_eq (by omega) (by omega) (by omega) (by omega)]; exact fun h => c1 ((hP.2.2.2 32 (by omega) (by omega)).mp h)), wp_bind, wp_some]
        by_cases c2 : bt bs i = 10
        · rw [wp_ite_t (by rw [show (10 : Int32) = J 10 from rfl, J_eq (by omega) (by omega) (by omega) (by omega)]; exact (hP.2.2.2 10 (by omega) (by omega)).mpr c2)]
          exact hgo (by unfold isBl; rw [decide_eq_true_eq]; exact Or.inr c2)
        · rw [wp_ite_f (by rw [show (10 : Int32) = J 10 from rfl, J_eq (by omega) (by omega) (by omega) (by omega)]; exact fun h => c2 ((hP.2.2.2 10 (by omega) (by omega)).mp h))]
          exact hend (by unfold isBl; rw [decide_eq_false_iff_not]; omega)
    · rw [wp_ite_f (by rw [J_lt (by omega) (by omega) (by omega) (by omega)]; omega)]
      exact hend (by rw [bt_ge (by omega)]; exact isBl0)
theorem r_go119 (hG : GK Γ) (K : rhM → Nat → Option rhM) : ∀ (n : Nat) (M : rhM) (j : Nat), MR M → RB M bs → M.1 102 7 = J j → j ≤ bs.length → bs.length - j < n →
    (∀ M', Fr [102] M M' → RB M' bs → (∀ k, k ≠ 7 → M'.1 102 k = M.1 102 k) → M'.1 102 7 = J (skp isLe bs j) → wp (K M' 102) Q) → wp (f_X12_goOn_119 K Γ n M 102) Q := by
  intro n
  induction n with
  | zero => intro M i _ _ _ _ h; omega
  | succ n ih =>
    intro M j hR hB h7 hj hn hK
    obtain ⟨b0, b1, b2, b3⟩ := id hB
    have hr := bt_rng b3 j
    have hu := ut_rng hr
    have hP := ut_P hr
    rw [f_X12_goOn_119, wp_ck_t (GKk102 hG), h7, wp_bind, r_sign hG hR hB (by omega), wp_some, wp_bind, r_isLe (by omega), wp_some, hP.1]
    by_cases c1 : isLe (bt bs j) = true
    · have hs := skp_t isLe0 c1
      rw [if_pos c1, wp_ite_f (by decide), show (1 : Int32) = J 1 from rfl, J_add, J_suc]
      have F := (Fr.refl [102] M).si (r := 102) (by simp) 7 (J ((j + 1 : Nat) : Int))
      refine ih _ (j + 1) (hR.fr F) (hB.si (by decide) _) (by rw [si_1, if_pos ⟨rfl, rfl⟩]) (by omega) (by omega) (fun M' f1 f2 f3 f5 => ?_)
      refine hK M' (F.trans f1) f2 (fun k hk => ?_) (by rw [f5, hs.2])
      rw [f3 k hk, si_1, if_neg (by omega)]
    · rw [if_neg c1, wp_ite_t rfl]
      exact hK M (Fr.refl _ _) hB (fun _ _ => rfl) (by rw [skp_f (by simpa using c1)]; exact h7)
theorem r_go156 (hG : GK Γ) (K : rhM → Nat → Option rhM) {p e : Nat} (hpe : p ≤ e) (he : e ≤ bs.length) (hlet : ∀ j, p ≤ j → j < e → isLe (bt bs j) = true) : ∀ (n : Nat) (M : rhM) (k : Nat), MR M → RB M bs → M.1 102 6 = J p → M.1 102 7 = J e → M.2.1 102 10 = jl (enb 256 0 (wl bs p (k - p))) → p ≤ k → k ≤ p + 8 → k ≤ e → e - k < n →
    (∀ M', Fr [102] M M' → RB M' bs → M'.1 102 = M.1 102 → M'.2.1 102 10 = jl (enb 256 0 (wl bs p (min 8 (e - p)))) → wp (K M' 102) Q) → wp (f_X12_goOn_156 K Γ n M 102 (J k)) Q := by
  intro n
  induction n with
  | zero => intro M k _ _ _ _ _ _ _ _ h; omega
  | succ n ih =>
    intro M k hR hB h6 h7 h10 hk hk8 hke hn hK
    obtain ⟨b0, b1, b2, b3⟩ := id hB
    have hr := bt_rng b3 k
    rw [f_X12_goOn_156, wp_ck_t (GKk102 hG), h7, h6]
    by_cases c : k < e
    · rw [wp_ite_t (by rw [J_lt (by omega) (by omega) (by omega) (by omega)]; omega)]
      by_cases c2 : k < p + 8
      · have hl := hlet k hk c
        have hl2 : 97 ≤ bt bs k ∧ bt bs k ≤ 122 := by unfold isLe at hl; rw [decide_eq_true_eq] at hl; exact hl
        rw [wp_ite_t (by rw [show (8 : Int32) = J 8 from rfl, J_add, J_lt (by omega) (by omega) (by omega) (by omega)]; omega), wp_bind, r_sign hG hR hB (by omega), wp_some, ut_pos (by omega), h10, show bt bs k = (((bt bs k).toNat : Nat) : Int) by omega, show (8 : Int32) = J (8 : Nat) from rfl, jl_cat (by omega) (by omega) (by omega), show (1 : Int32) = J 1 from rfl, J_add, J_suc]
        have F := (Fr.refl [102] M).sl (r := 102) (by simp) 10 (jl (enb 256 0 (wl bs p (k - p)) * 2 ^ 8 + (bt bs k).toNat))
        refine ih _ (k + 1) (hR.fr F) (hB.sl _ _) h6 h7 ?_ (by omega) (by omega) (by omega) (by omega) (fun M' f1 f2 f3 f4 => hK M' (F.trans f1) f2 f3 f4)
        rw [sl_2, if_pos ⟨rfl, rfl⟩, show k + 1 - p = k - p + 1 by omega, wl, enb_snoc, show p + (k - p) = k by omega]
        rfl
      · rw [wp_ite_f (by rw [show (8 : Int32) = J 8 from rfl, J_add, J_lt (by omega) (by omega) (by omega) (by omega)]; omega)]
        exact hK M (Fr.refl _ _) hB rfl (by rw [h10, show min 8 (e - p) = k - p by omega])
    · rw [wp_ite_f (by rw [J_lt (by omega) (by omega) (by omega) (by omega)]; omega)]
      exact hK M (Fr.refl _ _) hB rfl (by rw [h10, show min 8 (e - p) = k - p by omega])
theorem r_go259 (hG : GK Γ) (K : rhM → Nat → Option rhM) {p : Nat} : ∀ (n : Nat) (M : rhM) (j : Nat), MR M → RB M bs → M.1 102 7 = J j → M.1 102 6 = J p → M.1 102 9 = J (nvl bs p (min 4 (j - p))) → nvl bs p (min 4 (j - p)) < 10 ^ (min 4 (j - p)) → p ≤ j → j ≤ bs.length → bs.length - j < n →
    (∀ M', Fr [102] M M' → RB M' bs → (∀ k, k ≠ 7 → k ≠ 9 → M'.1 102 k = M.1 102 k) → M'.1 102 7 = J (skp isDi bs j) → M'.1 102 9 = J (nvl bs p (min 4 (skp isDi bs j - p))) → wp (K M' 102) Q) → wp (f_X12_goOn_259 K Γ n M 102) Q := by
  intro n
  induction n with
  | zero => intro M j _ _ _ _ _ _ _ _ h; omega
  | succ n ih =>
    intro M j hR hB h7 h6 h9 hv hp hj hn hK
    obtain ⟨b0, b1, b2, b3⟩ := id hB
    have hr := bt_rng b3 j
    have hu := ut_rng hr
    have hP := ut_P hr
    rw [f_X12_goOn_259, wp_ck_t (GKk102 hG), h7, wp_bind, r_sign hG hR hB (by omega), wp_some, wp_bind, r_isDi (by omega), wp_some, hP.2.1, h6]
    by_cases c1 : isDi (bt bs j) = true
    · have hs := skp_t isDi0 c1
      have hl : 48 ≤ bt bs j ∧ bt bs j ≤ 57 := by unfold isDi at c1; rw [decide_eq_true_eq] at c1; exact c1
      rw [if_pos c1, wp_ite_f (by decide)]
      by_cases c2 : j - p < 4
      · have hst := nv_step (bs := bs) hp c2
        have hpw : (10 : Nat) ^ (min 4 (j + 1 - p)) = 10 ^ (min 4 (j - p)) * 10 := by rw [show min 4 (j + 1 - p) = min 4 (j - p) + 1 by omega, Nat.pow_succ]
        have hp3 : (10 : Nat) ^ (min 4 (j - p)) ≤ 10 ^ 3 := Nat.pow_le_pow_right (by decide) (by omega)
        rw [wp_ite_t (by rw [J_sub, show (4 : Int32) = J 4 from rfl, J_lt (by omega) (by omega) (by omega) (by omega)]; omega), wp_bind, wp_some, ut_pos (by omega), h9, show (10 : Int32) = J 10 from rfl, show (48 : Int32) = J 48 from rfl, J_mul, J_add, J_sub, show 10 * ((nvl bs p (min 4 (j - p)) : Nat) : Int) + bt bs j - 48 = ((nvl bs p (min 4 (j + 1 - p)) : Nat) : Int) by rw [hst]; omega]
        show wp (f_X12_goOn_309 (f_X12_goOn_259 K Γ n) Γ (rhsi M 102 9 (J (nvl bs p (min 4 (j + 1 - p)) : Nat))) 102) Q
        rw [f_X12_goOn_309, wp_ck_t (GKk102 hG), si_1, if_neg (by decide), h7, show (1 : Int32) = J 1 from rfl, J_add, J_suc]
        have F := ((Fr.refl [102] M).si (r := 102) (by simp) 9 (J (nvl bs p (min 4 (j + 1 - p)) : Nat))).si (r := 102) (by simp) 7 (J ((j + 1 : Nat) : Int))
        refine ih _ (j + 1) (hR.fr F) ((hB.si (by decide) _).si (by decide) _) (by rw [si_1, if_pos ⟨rfl, rfl⟩]) (by rw [si_1, if_neg (by decide), si_1, if_neg (by decide)]; exact h6) (by rw [si_1, if_neg (by decide), si_1, if_pos ⟨rfl, rfl⟩]) (by rw [hst, hpw]; omega) (by omega) (by omega) (by omega) (fun M' f1 f2 f3 f5 f6 => ?_)
        refine hK M' (F.trans f1) f2 (fun k hk hk8 => ?_) (by rw [f5, hs.2]) (by rw [f6, hs.2])
        rw [f3 k hk hk8, si_1, if_neg (by omega), si_1, if_neg (by omega)]
      · have em : min 4 (j + 1 - p) = min 4 (j - p) := by omega
        rw [wp_ite_f (by rw [J_sub, show (4 : Int32) = J 4 from rfl, J_lt (by omega) (by omega) (by omega) (by omega)]; omega), f_X12_goOn_309, wp_ck_t (GKk102 hG), h7, show (1 : Int32) = J 1 from rfl, J_add, J_suc]
        have F := (Fr.refl [102] M).si (r := 102) (by simp) 7 (J ((j + 1 : Nat) : Int))
        refine ih _ (j + 1) (hR.fr F) (hB.si (by decide) _) (by rw [si_1, if_pos ⟨rfl, rfl⟩]) (by rw [si_1, if_neg (by decide)]; exact h6) (by rw [si_1, if_neg (by decide), h9, em]) (by rw [em]; exact hv) (by omega) (by omega) (by omega) (fun M' f1 f2 f3 f5 f6 => ?_)
        refine hK M' (F.trans f1) f2 (fun k hk hk8 => ?_) (by rw [f5, hs.2]) (by rw [f6, hs.2])
        rw [f3 k hk hk8, si_1, if_neg (by omega)]
    · rw [if_neg c1, wp_ite_t rfl]
      exact hK M (Fr.refl _ _) hB (fun _ _ _ => rfl) (by rw [skp_f (by simpa using c1)]; exact h7) (by rw [skp_f (by simpa using c1)]; exact h9)
end
