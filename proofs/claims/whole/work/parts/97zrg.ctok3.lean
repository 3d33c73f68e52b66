section
variable {Γ : rhG} {M : rhM} {bs : List Int32} {Q : rhM → Prop}
theorem by1_at : rhby1.length = 10 ∧ rhby1.getD 0 0 = J 59 ∧ rhby1.getD 1 0 = J 40 ∧ rhby1.getD 2 0 = J 41 ∧ rhby1.getD 3 0 = J 60 ∧ rhby1.getD 4 0 = J 62 ∧ rhby1.getD 5 0 = J 61 ∧ rhby1.getD 6 0 = J 43 ∧ rhby1.getD 7 0 = J 45 ∧ rhby1.getD 8 0 = J 42 ∧ rhby1.getD 9 0 = J 47 := by decide
def sgL : List Int := [59, 40, 41, 60, 62, 61, 43, 45, 42, 47]
theorem sgL_at : ∀ k, k < 10 → rhby1.getD k 0 = J (sgL.getD k 0) ∧ 0 ≤ sgL.getD k 0 ∧ sgL.getD k 0 < 128 ∧ sgL.drop k = sgL.getD k 0 :: sgL.drop (k + 1) := by decide
theorem isSg_mem {b : Int} : isSg b = decide (b ∈ sgL) := by
  unfold isSg sgL
  simp only [List.mem_cons, List.not_mem_nil, or_false]
theorem c_sign7 (hG : GK Γ) (K : rhM → Nat → Option rhM) {p : Nat} (hp : p < bs.length) : ∀ (n : Nat) (M : rhM) (k : Nat), CB M bs → M.1 4 3 = J p → k ≤ 10 → 10 - k < n →
    (∀ M', Fr [4] M M' → CB M' bs → (∀ j, j ≠ 4 → j ≠ 9 → M'.1 4 j = M.1 4 j) → M'.2.1 4 = M.2.1 4 → (bt bs p ∈ sgL.drop k → M'.1 4 4 = J 5 ∧ M'.1 4 9 = J (bt bs p)) → (bt bs p ∉ sgL.drop k → M'.1 4 4 = M.1 4 4 ∧ M'.1 4 9 = M.1 4 9) → wp (K M' 4) Q) → wp (f_X8_readSign_7 K Γ n M 4 (J k)) Q := by
  intro n
  induction n with
  | zero => intro M k _ _ _ h; omega
  | succ n ih =>
    intro M k hB h3 hk hn hK
    obtain ⟨b0, b1, b2, b3, b4, b5, b6⟩ := id hB
    have hr := bt_rng b6 p
    rw [f_X8_readSign_7, by1_at.1, show Int32.ofNat 10 = J 10 from rfl]
    by_cases c : k < 10
    · obtain ⟨k1, k2, k4, k5⟩ := sgL_at k c
      rw [wp_ite_t (by rw [J_lt (by omega) (by omega) (by omega) (by omega)]; omega), wp_ck_t (by rw [J_toInt (by omega) (by omega)]; omega), wp_ck_t (GKk4 hG), b1, wp_ck_t (GKk2 hG), h3, wp_ck_t (by rw [J_toInt (by omega) (by omega), GKl2 hG]; omega), J_clamp (by omega) (by omega), J_clamp (by omega) (by omega), Int.toNat_natCast, Int.toNat_natCast, k1, Bs_bt b3 hp]
      by_cases c1 : sgL.getD k 0 = bt bs p
      · rw [wp_ite_t (by rw [c1])]
        have e9 : (rhsi M 4 4 5).1 4 3 = J p := by rw [si_1, if_neg (by decide)]; exact h3
        have e2 : (rhsi M 4 4 5).1 2 p = J (bt bs p) := by rw [si_1, if_neg (by omega)]; exact Bs_bt b3 hp
        simp only [e9]
        rw [wp_ck_t (by rw [J_toInt (by omega) (by omega), GKl2 hG]; omega), J_clamp (by omega) (by omega), Int.toNat_natCast, e2]
        show wp (f_X8_readSign_52 (f_X8_readSign_7 K Γ n) Γ (rhsi (rhsi M 4 4 5) 4 9 (J (bt bs p))) 4 (J k)) Q
        rw [f_X8_readSign_52, show (1 : Int32) = J 1 from rfl, J_add, J_suc]
        refine ih _ (k + 1) ((hB.si (by decide) _).si (by decide) _) (by rw [si_1, if_neg (by decide)]; exact e9) (by omega) (by omega) (fun M' f1 f2 f3 f4 f5 f6 => hK M' ((((Fr.refl _ _).si (by simp) _ _).si (by simp) _ _).trans f1) f2 (fun j hj hj2 => ?_) f4 (fun _ => ?_) (fun h => absurd (by rw [k5, c1]; simp) h))
        · rw [f3 j hj hj2, si_1, if_neg (by omega), si_1, if_neg (by omega)]
        · by_cases c2 : bt bs p ∈ sgL.drop (k + 1)
          · exact f5 c2
          · obtain ⟨q1, q2⟩ := f6 c2
            rw [q1, q2, si_1, if_neg (by decide), si_1, if_pos ⟨rfl, rfl⟩, si_1, if_pos ⟨rfl, rfl⟩]
            exact ⟨rfl, rfl⟩
      · rw [wp_ite_f (by rw [J_eq (by omega) (by omega) (by omega) (by omega)]; exact c1), f_X8_readSign_52, show (1 : Int32) = J 1 from rfl, J_add, J_suc]
        have hm : (bt bs p ∈ sgL.drop k) = (bt bs p ∈ sgL.drop (k + 1)) := by
          rw [k5, List.mem_cons]
          exact propext ⟨fun h => h.elim (fun h => absurd h.symm c1) id, Or.inr⟩
        exact ih _ (k + 1) hB h3 (by omega) (by omega) (fun M' f1 f2 f3 f4 f5 f6 => hK M' f1 f2 f3 f4 (by rw [hm]; exact f5) (by rw [hm]; exact f6))
    · have e18 : k = 10 := by omega
      rw [wp_ite_f (by rw [J_lt (by omega) (by omega) (by omega) (by omega)]; omega)]
      have hd : bt bs p ∉ sgL.drop k := by rw [e18]; simp [sgL]
      exact hK M (Fr.refl _ _) hB (fun _ _ _ => rfl) rfl (fun h => absurd h hd) (fun _ => ⟨rfl, rfl⟩)
theorem c_readSign (hG : GK Γ) {i : Nat} (hB : CB M bs) (h3 : M.1 4 3 = J (qp bs i)) (h5 : M.1 4 5 = J (qp bs i)) (h7 : M.1 4 7 = J (-1)) (h9 : M.1 4 9 = J (-1)) (hi : qp bs i < bs.length) (hl : isLe (bt bs (qp bs i)) ≠ true) (hd : isDi (bt bs (qp bs i)) ≠ true)
    (hQ : ∀ M', Fr [4] M M' → CT M' bs i → Q M') : wp (f_X8_readSign Γ M 4) Q := by
  have en : qn bs i = qp bs i + 1 := by unfold qn; rw [if_neg hl, if_neg hd, if_pos hi]
  have ek : qk bs i = if isSg (bt bs (qp bs i)) = true then 5 else 1 := by unfold qk; rw [if_neg hl, if_neg hd, if_pos hi]
  have e2 : qx bs i = -1 := by unfold qx; rw [if_neg (by rw [ek]; split <;> decide)]
  rw [f_X8_readSign, wp_ck_t (GKk4 hG)]
  show wp (f_X8_readSign_7 (f_X8_readSign_58 Γ) Γ rhFU (rhsi M 4 4 1) 4 (J (0 : Nat))) Q
  have i4 : (rhsi M 4 4 1).1 4 4 = J 1 := by rw [si_1, if_pos ⟨rfl, rfl⟩]; rfl
  have i9 : (rhsi M 4 4 1).1 4 9 = J (-1) := by rw [si_1, if_neg (by decide)]; exact h9
  refine c_sign7 hG _ hi _ _ 0 (hB.si (by decide) _) (by rw [si_1, if_neg (by decide)]; exact h3) (by omega) (by have := FU_big; omega) (fun M1 f1 B1 g1 g2 g3 g4 => ?_)
  rw [List.drop_zero] at g3 g4
  have k3 : M1.1 4 3 = J (qp bs i) := by rw [g1 3 (by decide) (by decide), si_1, if_neg (by decide)]; exact h3
  rw [f_X8_readSign_58, wp_ck_t (GKk4 hG), k3, show (1 : Int32) = J 1 from rfl, J_add, J_suc]
  have key : M1.1 4 4 = J (qk bs i) ∧ M1.1 4 9 = J (qs bs i) := by
    unfold qs
    rw [ek, isSg_mem]
    by_cases c : bt bs (qp bs i) ∈ sgL
    · rw [if_pos (by rw [decide_eq_true_eq]; exact c), if_pos rfl]; exact g3 c
    · rw [if_neg (by rw [decide_eq_true_eq]; exact c), if_neg (by decide)]
      obtain ⟨q1, q2⟩ := g4 c
      exact ⟨q1.trans i4, q2.trans i9⟩
  refine (wp_some _ _).mpr (hQ _ ((((Fr.refl _ _).si (by simp) _ _).trans f1).si (by simp) _ _) ⟨B1.si (by decide) _, ?_, ?_, ?_, ?_, ?_, fun h => ?_, fun h => ?_⟩)
  · rw [si_1, if_pos ⟨rfl, rfl⟩, en]
  · rw [si_1, if_neg (by decide), g1 5 (by decide) (by decide), si_1, if_neg (by decide)]; exact h5
  · rw [si_1, if_neg (by decide)]; exact key.1
  · rw [si_1, if_neg (by decide), g1 7 (by decide) (by decide), si_1, if_neg (by decide), e2]; exact h7
  · rw [si_1, if_neg (by decide)]; exact key.2
  · rw [ek] at h; split at h <;> cases h
  · rw [ek] at h; split at h <;> cases h
/-- the class goes on to the token behind place i -/
theorem c_advance (hG : GK Γ) {i : Nat} (hB : CB M bs) (h3 : M.1 4 3 = J i) (hi : i ≤ bs.length) (hQ : ∀ M', Fr [4] M M' → CT M' bs i → Q M') : wp (f_X8_advance Γ M 4) Q := by
  have hp := qp_le hi
  have hb4 := hB.2.2.2.2.1
  rw [f_X8_advance, wp_ck_t (GKk4 hG)]
  show wp (f_X8_advance_10 (f_X8_advance_62 Γ) Γ rhFU (rhsi (rhsi M 4 7 (-1)) 4 9 (-1)) 4) Q
  refine c_adv10 hG _ _ _ i ((hB.si (by decide) _).si (by decide) _) (by rw [si_1, if_neg (by decide), si_1, if_neg (by decide)]; exact h3) hi (by have := FU_big; omega) (fun M1 f1 B1 g1 g2 g3 => ?_)
  have F1 : Fr [4] M M1 := (((Fr.refl _ _).si (by simp) _ _).si (by simp) _ _).trans f1
  have g7 : M1.1 4 7 = J (-1) := by rw [g1 7 (by decide), si_1, if_neg (by decide), si_1, if_pos ⟨rfl, rfl⟩]; rfl
  have g9 : M1.1 4 9 = J (-1) := by rw [g1 9 (by decide), si_1, if_pos ⟨rfl, rfl⟩]; rfl
  rw [f_X8_advance_62, wp_ck_t (GKk4 hG), g3]
  generalize hM2 : rhsi M1 4 5 (J (qp bs i)) = M2
  have B2 : CB M2 bs := by rw [← hM2]; exact B1.si (by decide) _
  have F2 : Fr [4] M M2 := by rw [← hM2]; exact F1.si (by simp) _ _
  have k3 : M2.1 4 3 = J (qp bs i) := by rw [← hM2, si_1, if_neg (by decide)]; exact g3
  have k5 : M2.1 4 5 = J (qp bs i) := by rw [← hM2, si_1, if_pos ⟨rfl, rfl⟩]
  have k7 : M2.1 4 7 = J (-1) := by rw [← hM2, si_1, if_neg (by decide)]; exact g7
  have k9 : M2.1 4 9 = J (-1) := by rw [← hM2, si_1, if_neg (by decide)]; exact g9
  obtain ⟨b0, b1, b2, b3, b4, b5, b6⟩ := id B2
  have r1 : M1.2.2 4 1 = 2 := B1.2.1
  have hr := bt_rng b6 (qp bs i)
  simp only [k3, b2, r1]
  by_cases c : qp bs i < bs.length
  · rw [wp_ite_t (by rw [J_lt (by omega) (by omega) (by omega) (by omega)]; omega), wp_ck_t (GKk2 hG), wp_ck_t (by rw [J_toInt (by omega) (by omega), GKl2 hG]; omega), J_clamp (by omega) (by omega), Int.toNat_natCast, Bs_bt b3 c, wp_bind, c_isLe (by omega), wp_some]
    by_cases c1 : isLe (bt bs (qp bs i)) = true
    · rw [if_pos c1, wp_ite_f (by decide), wp_bind]
      exact c_readWord hG B2 k3 k5 k7 k9 hi c1 (fun M' f t => (wp_some _ _).mpr (hQ M' (F2.trans f) t))
    · rw [if_neg c1, wp_ite_t rfl, wp_bind, c_isDi (by omega), wp_some]
      by_cases c2 : isDi (bt bs (qp bs i)) = true
      · rw [if_pos c2, wp_ite_f (by decide), wp_bind]
        exact c_readNumber hG B2 k3 k5 k7 k9 hi c1 c2 (fun M' f t => (wp_some _ _).mpr (hQ M' (F2.trans f) t))
      · rw [if_neg c2, wp_ite_t rfl, wp_bind]
        exact c_readSign hG B2 k3 k5 k7 k9 c c1 c2 (fun M' f t => (wp_some _ _).mpr (hQ M' (F2.trans f) t))
  · have e0 : bt bs (qp bs i) = 0 := bt_ge (by omega)
    have en : qn bs i = qp bs i := by unfold qn; rw [e0, if_neg (by decide), if_neg (by decide), if_neg c]
    have ek : qk bs i = 0 := by unfold qk; rw [e0, if_neg (by decide), if_neg (by decide), if_neg c]
    have e2 : qx bs i = -1 := by unfold qx; rw [ek, if_neg (by decide)]
    have e3 : qs bs i = -1 := by unfold qs; rw [ek, if_neg (by decide)]
    rw [wp_ite_f (by rw [J_lt (by omega) (by omega) (by omega) (by omega)]; omega)]
    refine (wp_some _ _).mpr (hQ _ (F2.si (by simp) _ _) ⟨B2.si (by decide) _, ?_, ?_, ?_, ?_, ?_, fun h => by omega, fun h => by omega⟩)
    · rw [si_1, if_neg (by decide), en]; exact k3
    · rw [si_1, if_neg (by decide)]; exact k5
    · rw [si_1, if_pos ⟨rfl, rfl⟩, ek]; rfl
    · rw [si_1, if_neg (by decide), e2]; exact k7
    · rw [si_1, if_neg (by decide), e3]; exact k9
end
