theorem kwL_at : ∀ k, k < 18 → kwL.idxOf (kwL.getD k []) = k ∧ kwL.getD k [] ∉ kwL.drop (k + 1) ∧ kwL.drop k = kwL.getD k [] :: kwL.drop (k + 1) := by decide
theorem qw_let {bs : List Int32} {i : Nat} (h : isLe (bt bs (qp bs i)) = true) : (qw bs i).length ≤ 8 ∧ ∀ c, c ∈ qw bs i → 97 ≤ c ∧ c ≤ 122 := by
  have e : qn bs i = skp isLe bs (qp bs i) := by unfold qn; rw [if_pos h]
  have hg : qp bs i ≤ qn bs i := by rw [e]; exact skp_ge
  unfold qw
  refine ⟨by rw [wl_len]; omega, wl_let (n := qn bs i) (fun j h1 h2 => ?_) _ (by omega)⟩
  rw [e] at h2
  exact skp_in isLe0 _ (qp bs i) j (Nat.le_refl _) h1 h2
theorem kw_eq {k : Nat} (hk : k < 18) {w : List Nat} (hl : w.length ≤ 8) (hw : ∀ c, c ∈ w → 97 ≤ c ∧ c ≤ 122) : kwW k = jl (enc w) ↔ kwL.getD k [] = w := by
  have hm : kwL.getD k [] ∈ kwL := by
    rw [List.getD_eq_getElem?_getD, List.getElem?_eq_getElem (show k < kwL.length from hk)]
    exact List.getElem_mem _
  obtain ⟨g1, g2⟩ := kwL_mem hm
  have f : ∀ l : List Nat, (∀ c, c ∈ l → 97 ≤ c ∧ c ≤ 122) → ∀ c, c ∈ l → 96 < c ∧ c - 96 < 32 := fun l h c hc => by have := h c hc; omega
  have b : ∀ l : List Nat, l.length ≤ 8 → (∀ c, c ∈ l → 97 ≤ c ∧ c ≤ 122) → enb 32 96 l < 2 ^ 64 := fun l h1 h2 => by
    have h3 := enb_lt (m := 32) (s := 96) (by decide) l.length l rfl (f l h2)
    have h4 : 32 ^ l.length ≤ 32 ^ 8 := Nat.pow_le_pow_right (by decide) h1
    have h5 : (32 : Nat) ^ 8 < 2 ^ 64 := by decide
    omega
  unfold kwW
  rw [enc_enb, enc_enb, jl_inj (b _ g1 g2) (b _ hl hw)]
  exact ⟨fun h => enb_inj _ _ _ rfl (f _ g2) (f _ hw) h, fun h => by rw [h]⟩
section
variable {Γ : rhG} {M : rhM} {bs : List Int32} {Q : rhM → Prop}
theorem c_word111 (hG : GK Γ) {w : List Nat} (hl : w.length ≤ 8) (hw : ∀ c, c ∈ w → 97 ≤ c ∧ c ≤ 122) : ∀ (n : Nat) (M : rhM) (k : Nat), CB M bs → M.2.1 4 6 = jl (enc w) → k ≤ 18 → 18 - k < n →
    (∀ M', Fr [4] M M' → CB M' bs → (∀ j, j ≠ 4 → j ≠ 7 → M'.1 4 j = M.1 4 j) → M'.2.1 4 = M.2.1 4 → M'.1 4 4 = (if w ∈ kwL.drop k then 3 else M.1 4 4) → M'.1 4 7 = (if w ∈ kwL.drop k then J (kwL.idxOf w : Nat) else M.1 4 7) → Q M') → wp (f_X8_readWord_111 Γ n M 4 (J k)) Q := by
  intro n
  induction n with
  | zero => intro M k _ _ _ h; omega
  | succ n ih =>
    intro M k hB h6 hk hn hK
    obtain ⟨b0, b1, b2, b3, b4, b5, b6⟩ := id hB
    rw [f_X8_readWord_111]
    by_cases c : k < 18
    · obtain ⟨k1, k2, k3⟩ := kwL_at k c
      rw [wp_ite_t (by rw [show (18 : Int32) = J 18 from rfl, J_lt (by omega) (by omega) (by omega) (by omega)]; omega), wp_ck_t (GKk4 hG), b0, wp_ck_t (GKk5 hG), wp_ck_t (by rw [J_toInt (by omega) (by omega), GKl5 hG]; omega), J_clamp (by omega) (by omega), Int.toNat_natCast, b5 k c, h6]
      by_cases c1 : kwL.getD k [] = w
      · rw [wp_ite_t ((kw_eq c hl hw).mpr c1)]
        show wp (f_X8_readWord_141 (f_X8_readWord_111 Γ n) Γ (rhsi (rhsi M 4 4 3) 4 7 (J k)) 4 (J k)) Q
        rw [f_X8_readWord_141, show (1 : Int32) = J 1 from rfl, J_add, J_suc]
        refine ih _ (k + 1) ((hB.si (by decide) _).si (by decide) _) h6 (by omega) (by omega) (fun M' f1 f2 f3 f4 f5 f6 => hK M' ((((Fr.refl _ _).si (by simp) _ _).si (by simp) _ _).trans f1) f2 (fun j hj hj2 => ?_) f4 ?_ ?_)
        · rw [f3 j hj hj2, si_1, if_neg (by omega), si_1, if_neg (by omega)]
        · rw [f5, if_neg (by rw [← c1]; exact k2), si_1, if_neg (by decide), si_1, if_pos ⟨rfl, rfl⟩, if_pos (by rw [k3, c1]; simp)]
        · rw [f6, if_neg (by rw [← c1]; exact k2), si_1, if_pos ⟨rfl, rfl⟩, if_pos (by rw [k3, c1]; simp), ← c1, k1]
      · rw [wp_ite_f (fun h => c1 ((kw_eq c hl hw).mp h)), f_X8_readWord_141, show (1 : Int32) = J 1 from rfl, J_add, J_suc]
        have hm : (w ∈ kwL.drop k) = (w ∈ kwL.drop (k + 1)) := by
          rw [k3, List.mem_cons]
          exact propext ⟨fun h => h.elim (fun h => absurd h.symm c1) id, Or.inr⟩
        exact ih _ (k + 1) hB h6 (by omega) (by omega) (fun M' f1 f2 f3 f4 f5 f6 => hK M' f1 f2 f3 f4 (by simp only [hm]; exact f5) (by simp only [hm]; exact f6))
    · have e18 : k = 18 := by omega
      rw [wp_ite_f (by rw [show (18 : Int32) = J 18 from rfl, J_lt (by omega) (by omega) (by omega) (by omega)]; omega), wp_some]
      have hd : w ∉ kwL.drop k := by rw [e18]; simp [kwL]
      exact hK M (Fr.refl _ _) hB (fun _ _ _ => rfl) rfl (by rw [if_neg hd]) (by rw [if_neg hd])
/-- the word's kind -/
theorem c_readWord (hG : GK Γ) {i : Nat} (hB : CB M bs) (h3 : M.1 4 3 = J (qp bs i)) (h5 : M.1 4 5 = J (qp bs i)) (h7 : M.1 4 7 = J (-1)) (h9 : M.1 4 9 = J (-1)) (hi : i ≤ bs.length) (hl : isLe (bt bs (qp bs i)) = true)
    (hQ : ∀ M', Fr [4] M M' → CT M' bs i → Q M') : wp (f_X8_readWord Γ M 4) Q := by
  have hp := qp_le hi
  have en : qn bs i = skp isLe bs (qp bs i) := by unfold qn; rw [if_pos hl]
  have hlet := qw_let hl
  have hb4 := hB.2.2.2.2.1
  rw [f_X8_readWord, wp_ck_t (GKk4 hG)]
  show wp (f_X8_readWord_5 (f_X8_readWord_84 Γ) Γ rhFU (rhsl M 4 6 0) 4) Q
  refine c_word5 hG _ (p := qp bs i) _ _ (qp bs i) (hB.sl _ _) h3 h5 (by rw [sl_2, if_pos ⟨rfl, rfl⟩, Nat.sub_self]; rfl) (Nat.le_refl _) hp.2 (by have := FU_big; omega) (fun M1 f1 B1 g1 g3 g6 => ?_)
  rw [← en] at g3 g6
  have hn := qn_le hi
  have g5 : M1.1 4 5 = J (qp bs i) := by rw [g1 5 (by decide)]; exact h5
  have g7 : M1.1 4 7 = J (-1) := by rw [g1 7 (by decide)]; exact h7
  have g9 : M1.1 4 9 = J (-1) := by rw [g1 9 (by decide)]; exact h9
  have F1 : Fr [4] M M1 := ((Fr.refl _ _).sl (by simp) _ _).trans f1
  rw [f_X8_readWord_84, wp_ck_t (GKk4 hG), g3, g5, J_sub, show (8 : Int32) = J 8 from rfl]
  by_cases c : 8 < qn bs i - qp bs i
  · rw [wp_ite_t (by rw [J_lt (by omega) (by omega) (by omega) (by omega)]; omega)]
    have e1 : qk bs i = 1 := by unfold qk; rw [if_pos hl, if_pos c]
    have e2 : qx bs i = -1 := by unfold qx; rw [if_neg (by omega)]
    have e3 : qs bs i = -1 := by unfold qs; rw [if_neg (by omega)]
    refine (wp_some _ _).mpr (hQ _ (F1.si (by simp) _ _) ⟨B1.si (by decide) _, ?_, ?_, ?_, ?_, ?_, fun h => by omega, fun h => by omega⟩)
    · rw [si_1, if_neg (by decide)]; exact g3
    · rw [si_1, if_neg (by decide)]; exact g5
    · rw [si_1, if_pos ⟨rfl, rfl⟩, e1]; rfl
    · rw [si_1, if_neg (by decide), e2]; exact g7
    · rw [si_1, if_neg (by decide), e3]; exact g9
  · rw [wp_ite_f (by rw [J_lt (by omega) (by omega) (by omega) (by omega)]; omega)]
    show wp (f_X8_readWord_111 Γ rhFU (rhsi M1 4 4 2) 4 (J (0 : Nat))) Q
    refine c_word111 hG hlet.1 hlet.2 _ _ 0 (B1.si (by decide) _) (by rw [si_2]; exact g6) (by omega) (by have := FU_big; omega) (fun M2 f2 B2 k1 k2 k4 k7 => hQ M2 ((F1.si (by simp) _ _).trans f2) ?_)
    have i4 : (rhsi M1 4 4 2).1 4 4 = 2 := by rw [si_1, if_pos ⟨rfl, rfl⟩]
    have i7 : (rhsi M1 4 4 2).1 4 7 = J (-1) := by rw [si_1, if_neg (by decide)]; exact g7
    rw [List.drop_zero, i4] at k4
    rw [List.drop_zero, i7] at k7
    have e1 : qk bs i = if qw bs i ∈ kwL then 3 else 2 := by unfold qk; rw [if_pos hl, if_neg c]
    have e3 : qs bs i = -1 := by
      unfold qs; rw [if_neg (by rw [e1]; split <;> decide)]
    refine ⟨B2, ?_, ?_, ?_, ?_, ?_, fun _ => ?_, fun h => ?_⟩
    · rw [k1 3 (by decide) (by decide), si_1, if_neg (by decide)]; exact g3
    · rw [k1 5 (by decide) (by decide), si_1, if_neg (by decide)]; exact g5
    · rw [k4, e1]; split <;> rfl
    · rw [k7]; unfold qx; rw [e1]
      by_cases cm : qw bs i ∈ kwL
      · rw [if_pos cm, if_pos cm, if_pos rfl]
      · rw [if_neg cm, if_neg cm, if_neg (by decide)]
    · rw [k1 9 (by decide) (by decide), si_1, if_neg (by decide), e3]; exact g9
    · rw [k2, si_2]; exact g6
    · rw [e1] at h; split at h <;> cases h
theorem c_readNumber (hG : GK Γ) {i : Nat} (hB : CB M bs) (h3 : M.1 4 3 = J (qp bs i)) (h5 : M.1 4 5 = J (qp bs i)) (h7 : M.1 4 7 = J (-1)) (h9 : M.1 4 9 = J (-1)) (hi : i ≤ bs.length) (hl : isLe (bt bs (qp bs i)) ≠ true) (hd : isDi (bt bs (qp bs i)) = true)
    (hQ : ∀ M', Fr [4] M M' → CT M' bs i → Q M') : wp (f_X8_readNumber Γ M 4) Q := by
  have hp := qp_le hi
  have en : qn bs i = skp isDi bs (qp bs i) := by unfold qn; rw [if_neg hl, if_pos hd]
  have hb4 := hB.2.2.2.2.1
  rw [f_X8_readNumber, wp_ck_t (GKk4 hG)]
  show wp (f_X8_readNumber_5 (f_X8_readNumber_81 Γ) Γ rhFU (rhsi M 4 8 0) 4) Q
  refine c_num5 hG _ (p := qp bs i) _ _ (qp bs i) (hB.si (by decide) _) (by rw [si_1, if_neg (by decide)]; exact h3) (by rw [si_1, if_neg (by decide)]; exact h5) (by rw [si_1, if_pos ⟨rfl, rfl⟩, Nat.sub_self]; rfl) (by rw [Nat.sub_self]; exact Nat.one_pos) (Nat.le_refl _) hp.2 (by have := FU_big; omega) (fun M1 f1 B1 g1 g2 g3 g8 => ?_)
  rw [← en] at g3 g8
  have hn := qn_le hi
  have g5 : M1.1 4 5 = J (qp bs i) := by rw [g1 5 (by decide) (by decide), si_1, if_neg (by decide)]; exact h5
  have g7 : M1.1 4 7 = J (-1) := by rw [g1 7 (by decide) (by decide), si_1, if_neg (by decide)]; exact h7
  have g9 : M1.1 4 9 = J (-1) := by rw [g1 9 (by decide) (by decide), si_1, if_neg (by decide)]; exact h9
  have F1 : Fr [4] M M1 := ((Fr.refl _ _).si (by simp) _ _).trans f1
  obtain ⟨b0, b1, b2, b3, b4, b5, b6⟩ := id B1
  have hr := bt_rng b6 (qn bs i)
  have ek : qk bs i = if 4 < qn bs i - qp bs i ∨ isLe (bt bs (qn bs i)) = true then 1 else 4 := by unfold qk; rw [if_neg hl, if_pos hd]
  have fin : ∀ v, v = J (qk bs i) → wp (f_X8_readNumber_136 Γ M1 4 v) Q := fun v hv => by
    have e2 : qx bs i = -1 := by unfold qx; rw [if_neg (by rw [ek]; split <;> decide)]
    have e3 : qs bs i = -1 := by unfold qs; rw [if_neg (by rw [ek]; split <;> decide)]
    rw [f_X8_readNumber_136, wp_ck_t (GKk4 hG)]
    refine (wp_some _ _).mpr (hQ _ (F1.si (by simp) _ _) ⟨B1.si (by decide) _, ?_, ?_, ?_, ?_, ?_, fun h => ?_, fun _ => ?_⟩)
    · rw [si_1, if_neg (by decide)]; exact g3
    · rw [si_1, if_neg (by decide)]; exact g5
    · rw [si_1, if_pos ⟨rfl, rfl⟩, hv]
    · rw [si_1, if_neg (by decide), e2]; exact g7
    · rw [si_1, if_neg (by decide), e3]; exact g9
    · rw [ek] at h; split at h <;> cases h
    · rw [si_1, if_neg (by decide)]; exact g8
  have go : ∀ b : Int32, (b = if isLe (bt bs (qn bs i)) = true then 1 else 0) → wp (f_X8_readNumber_112 Γ M1 4 b) Q := fun b hb => by
    rw [f_X8_readNumber_112, wp_ck_t (GKk4 hG), g3, g5, J_sub, show (4 : Int32) = J 4 from rfl]
    by_cases c : 4 < qn bs i - qp bs i
    · rw [wp_ite_t (by rw [J_lt (by omega) (by omega) (by omega) (by omega)]; omega), f_X8_readNumber_131]
      exact fin _ (by rw [ek, if_pos (Or.inl c)]; rfl)
    · rw [wp_ite_f (by rw [J_lt (by omega) (by omega) (by omega) (by omega)]; omega), hb]
      by_cases c2 : isLe (bt bs (qn bs i)) = true
      · rw [if_pos c2, wp_ite_f (by decide), f_X8_readNumber_131]
        exact fin _ (by rw [ek, if_pos (Or.inr c2)]; rfl)
      · rw [if_neg c2, wp_ite_t rfl]
        exact fin _ (by rw [ek, if_neg (fun h => h.elim c c2)]; rfl)
  rw [f_X8_readNumber_81, wp_ck_t (GKk4 hG), g3, b2, b1]
  by_cases c : qn bs i < bs.length
  · rw [wp_ite_t (by rw [J_lt (by omega) (by omega) (by omega) (by omega)]; omega), wp_ck_t (GKk2 hG), wp_ck_t (by rw [J_toInt (by omega) (by omega), GKl2 hG]; omega), J_clamp (by omega) (by omega), Int.toNat_natCast, Bs_bt b3 c, wp_bind, c_isLe (by omega), wp_some]
    by_cases c2 : isLe (bt bs (qn bs i)) = true
    · rw [if_pos c2, wp_ite_f (by decide)]
      exact go 1 (by rw [if_pos c2])
    · rw [if_neg c2, wp_ite_t rfl, f_X8_readNumber_111]
      exact go 0 (by rw [if_neg c2])
  · rw [wp_ite_f (by rw [J_lt (by omega) (by omega) (by omega) (by omega)]; omega), f_X8_readNumber_111]
    exact go 0 (by rw [bt_ge (by omega)]; rfl)
end
