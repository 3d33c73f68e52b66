section
variable {Γ : rhG} {M : rhM} {bs : List Int32} {Q : rhM → Prop}
/-- what the reference's next token changes -/
def RK (M M' : rhM) : Prop := Fr [102] M M' ∧ ∀ k, k ≠ 6 → k ≠ 7 → k ≠ 8 → k ≠ 9 → M'.1 102 k = M.1 102 k
theorem RK.trans {M M' M'' : rhM} (h : RK M M') (h2 : RK M' M'') : RK M M'' := ⟨h.1.trans h2.1, fun k a b c d => (h2.2 k a b c d).trans (h.2 k a b c d)⟩
theorem RK.refl (M : rhM) : RK M M := ⟨Fr.refl _ _, fun _ _ _ _ _ => rfl⟩
theorem RK.si {M M' : rhM} (h : RK M M') {k : Nat} (hk : k = 6 ∨ k = 7 ∨ k = 8 ∨ k = 9) (v : Int32) : RK M (rhsi M' 102 k v) := ⟨h.1.si (by simp) _ _, fun j a b c d => by rw [si_1, if_neg (by omega)]; exact h.2 j a b c d⟩
theorem RK.sl {M M' : rhM} (h : RK M M') (k : Nat) (v : Int64) : RK M (rhsl M' 102 k v) := ⟨h.1.sl (by simp) _ _, h.2⟩
/-- the reference goes on to the token behind place i -/
theorem r_goOn (hG : GK Γ) {i : Nat} (hR : MR M) (hB : RB M bs) (h7 : M.1 102 7 = J i) (hi : i ≤ bs.length) (hQ : ∀ M', RK M M' → RT M' bs i → Q M') : wp (f_X12_goOn Γ M 102) Q := by
  have hp := qp_le hi
  have hn := qn_le hi
  have hb := hB.2.2.1
  have hbig := FU_big
  rw [f_X12_goOn, wp_ck_t (GKk102 hG), h7]
  show wp (f_X12_goOn_8 (f_X12_goOn_58 Γ) Γ rhFU (rhsi M 102 6 (J i)) 102) Q
  have F0 := (Fr.refl [102] M).si (r := 102) (by simp) 6 (J (i : Int))
  refine r_go8 hG _ _ _ i (hR.fr F0) (hB.si (by decide) _) (by rw [si_1, if_pos ⟨rfl, rfl⟩]) hi (by omega) (fun M1 f1 B1 g1 g6 => ?_)
  have K1 : RK M M1 := ⟨F0.trans f1, fun k a b c d => by rw [g1 k a, si_1, if_neg (by omega)]⟩
  have R1 := hR.fr K1.1
  obtain ⟨b0, b1, b2, b3⟩ := id B1
  have hr := bt_rng b3 (qp bs i)
  have hu := ut_rng hr
  have hP := ut_P hr
  rw [f_X12_goOn_58, wp_ck_t (GKk102 hG), g6, wp_bind, r_sign hG R1 B1 (by omega), wp_some, show (1 : Int32) = J 1 from rfl, J_add, J_suc]
  generalize hM2 : rhsi M1 102 7 (J ((qp bs i + 1 : Nat) : Int)) = M2
  have B2 : RB M2 bs := by rw [← hM2]; exact B1.si (by decide) _
  have K2 : RK M M2 := by rw [← hM2]; exact K1.si (by decide) _
  have R2 := hR.fr K2.1
  have k6 : M2.1 102 6 = J (qp bs i) := by rw [← hM2, si_1, if_neg (by decide)]; exact g6
  have k7 : M2.1 102 7 = J ((qp bs i + 1 : Nat) : Int) := by rw [← hM2, si_1, if_pos ⟨rfl, rfl⟩]
  have k3 : M2.1 102 3 = J bs.length := B2.1
  simp only [k6, k3]
  by_cases c : qp bs i < bs.length
  · rw [wp_ite_t (by rw [J_lt (by omega) (by omega) (by omega) (by omega)]; omega), wp_bind, r_isLe (by omega), wp_some, hP.1]
    by_cases c1 : isLe (bt bs (qp bs i)) = true
    · have en : qn bs i = skp isLe bs (qp bs i) := by unfold qn; rw [if_pos c1]
      have es : skp isLe bs (qp bs i) = skp isLe bs (qp bs i + 1) := (skp_t isLe0 c1).2
      have hlet := qw_let c1
      rw [if_pos c1, wp_ite_f (by decide)]
      refine r_go119 hG _ _ _ (qp bs i + 1) R2 B2 k7 (by omega) (by omega) (fun M3 f3 B3 g3 h37 => ?_)
      rw [← es, ← en] at h37
      have K3 : RK M M3 := K2.trans ⟨f3, fun k a b c d => g3 k b⟩
      have R3 := hR.fr K3.1
      have h36 : M3.1 102 6 = J (qp bs i) := by rw [g3 6 (by decide)]; exact k6
      rw [f_X12_goOn_146, wp_ck_t (GKk102 hG)]
      show wp (f_X12_goOn_156 (f_X12_goOn_199 Γ) Γ rhFU (rhsl M3 102 10 0) 102 (M3.1 102 6)) Q
      rw [h36]
      have F4 := K3.sl 10 0
      refine r_go156 hG _ (p := qp bs i) (e := qn bs i) hn.1 hn.2 (fun j h1 h2 => skp_in isLe0 _ (qp bs i) j (Nat.le_refl _) h1 (by rw [← en]; exact h2)) _ _ (qp bs i) (hR.fr F4.1) (B3.sl _ _) h36 h37 (by rw [sl_2, if_pos ⟨rfl, rfl⟩, Nat.sub_self]; rfl) (Nat.le_refl _) (by omega) hn.1 (by omega) (fun M5 f5 B5 g5 h510 => ?_)
      have K5 : RK M M5 := F4.trans ⟨f5, fun k _ _ _ _ => by rw [g5]⟩
      have h56 : M5.1 102 6 = J (qp bs i) := by rw [g5]; exact h36
      have h57 : M5.1 102 7 = J (qn bs i) := by rw [g5]; exact h37
      have fin : ∀ v, v = J (qk bs i) → wp (f_X12_goOn_233 Γ M5 102 v) Q := fun v hv => by
        rw [f_X12_goOn_233, wp_ck_t (GKk102 hG)]
        refine (wp_some _ _).mpr (hQ _ (K5.si (by decide) _) ⟨B5.si (by decide) _, ?_, ?_, ?_, fun _ => ?_, fun h => ?_⟩)
        · rw [si_1, if_neg (by decide)]; exact h56
        · rw [si_1, if_neg (by decide)]; exact h57
        · rw [si_1, if_pos ⟨rfl, rfl⟩, hv]
        · rw [si_2]; exact h510
        · unfold qk at h; rw [if_pos c1] at h; split at h
          · cases h
          · split at h <;> cases h
      rw [f_X12_goOn_199, wp_ck_t (GKk102 hG), h57, h56, J_sub, show (8 : Int32) = J 8 from rfl]
      by_cases c8 : 8 < qn bs i - qp bs i
      · rw [wp_ite_t (by rw [J_lt (by omega) (by omega) (by omega) (by omega)]; omega)]
        exact fin _ (by unfold qk; rw [if_pos c1, if_pos c8]; rfl)
      · rw [wp_ite_f (by rw [J_lt (by omega) (by omega) (by omega) (by omega)]; omega), wp_bind, h510, show wl bs (qp bs i) (min 8 (qn bs i - qp bs i)) = qw bs i from rfl, r_isKept hlet.1 hlet.2, wp_some]
        by_cases ck : qw bs i ∈ kwL
        · rw [if_pos ck, wp_ite_f (by decide)]
          exact fin _ (by unfold qk; rw [if_pos c1, if_neg c8, if_pos ck]; rfl)
        · rw [if_neg ck, wp_ite_t rfl]
          exact fin _ (by unfold qk; rw [if_pos c1, if_neg c8, if_neg ck]; rfl)
    · rw [if_neg c1, wp_ite_t rfl, wp_bind, r_isDi (by omega), wp_some, hP.2.1]
      by_cases c2 : isDi (bt bs (qp bs i)) = true
      · have en : qn bs i = skp isDi bs (qp bs i) := by unfold qn; rw [if_neg c1, if_pos c2]
        have ek : qk bs i = if 4 < qn bs i - qp bs i ∨ isLe (bt bs (qn bs i)) = true then 1 else 4 := by unfold qk; rw [if_neg c1, if_pos c2]
        rw [if_pos c2, wp_ite_f (by decide)]
        have e23 : (rhsi M2 102 9 0).1 102 6 = J (qp bs i) := by rw [si_1, if_neg (by decide)]; exact k6
        show wp (f_X12_goOn_259 (f_X12_goOn_322 Γ) Γ rhFU (rhsi (rhsi M2 102 9 0) 102 7 ((rhsi M2 102 9 0).1 102 6)) 102) Q
        rw [e23]
        have K3 := (K2.si (k := 9) (by decide) 0).si (k := 7) (by decide) (J (qp bs i))
        refine r_go259 hG _ (p := qp bs i) _ _ (qp bs i) (hR.fr K3.1) ((B2.si (by decide) _).si (by decide) _) (by rw [si_1, if_pos ⟨rfl, rfl⟩]) (by rw [si_1, if_neg (by decide)]; exact e23) (by rw [si_1, if_neg (by decide), si_1, if_pos ⟨rfl, rfl⟩, Nat.sub_self]; rfl) (by rw [Nat.sub_self]; exact Nat.one_pos) (Nat.le_refl _) hp.2 (by omega) (fun M5 f5 B5 g5 h57 h59 => ?_)
        rw [← en] at h57 h59
        have K5 : RK M M5 := K3.trans ⟨f5, fun k a b c d => g5 k b d⟩
        have R5 := hR.fr K5.1
        have h56 : M5.1 102 6 = J (qp bs i) := by rw [g5 6 (by decide) (by decide), si_1, if_neg (by decide)]; exact e23
        have fin : ∀ v, v = J (qk bs i) → wp (f_X12_goOn_355 Γ M5 102 v) Q := fun v hv => by
          rw [f_X12_goOn_355, wp_ck_t (GKk102 hG)]
          refine (wp_some _ _).mpr (hQ _ (K5.si (by decide) _) ⟨B5.si (by decide) _, ?_, ?_, ?_, fun h => ?_, fun _ => ?_⟩)
          · rw [si_1, if_neg (by decide)]; exact h56
          · rw [si_1, if_neg (by decide)]; exact h57
          · rw [si_1, if_pos ⟨rfl, rfl⟩, hv]
          · rw [ek] at h; exfalso; split at h <;> omega
          · rw [si_1, if_neg (by decide)]; exact h59
        have hrn := bt_rng b3 (qn bs i)
        have hun := ut_rng hrn
        rw [f_X12_goOn_322, wp_ck_t (GKk102 hG), h57, h56, J_sub, show (4 : Int32) = J 4 from rfl]
        by_cases c4 : 4 < qn bs i - qp bs i
        · rw [wp_ite_t (by rw [J_lt (by omega) (by omega) (by omega) (by omega)]; omega), f_X12_goOn_350]
          exact fin _ (by rw [ek, if_pos (Or.inl c4)]; rfl)
        · rw [wp_ite_f (by rw [J_lt (by omega) (by omega) (by omega) (by omega)]; omega), wp_bind, r_sign hG R5 B5 (by omega), wp_some, wp_bind, r_isLe (by omega), wp_some, (ut_P hrn).1]
          by_cases c5 : isLe (bt bs (qn bs i)) = true
          · rw [if_pos c5, wp_ite_f (by decide), f_X12_goOn_350]
            exact fin _ (by rw [ek, if_pos (Or.inr c5)]; rfl)
          · rw [if_neg c5, wp_ite_t rfl]
            exact fin _ (by rw [ek, if_neg (fun h => h.elim c4 c5)]; rfl)
      · have en : qn bs i = qp bs i + 1 := by unfold qn; rw [if_neg c1, if_neg c2, if_pos c]
        have ek : qk bs i = if isSg (bt bs (qp bs i)) = true then 5 else 1 := by unfold qk; rw [if_neg c1, if_neg c2, if_pos c]
        have fin : ∀ v, v = J (qk bs i) → wp (f_X12_goOn_374 Γ M2 102 v) Q := fun v hv => by
          rw [f_X12_goOn_374, wp_ck_t (GKk102 hG)]
          refine (wp_some _ _).mpr (hQ _ (K2.si (by decide) _) ⟨B2.si (by decide) _, ?_, ?_, ?_, fun h => ?_, fun h => ?_⟩)
          · rw [si_1, if_neg (by decide)]; exact k6
          · rw [si_1, if_neg (by decide), en]; exact k7
          · rw [si_1, if_pos ⟨rfl, rfl⟩, hv]
          · rw [ek] at h; exfalso; split at h <;> omega
          · rw [ek] at h; exfalso; split at h <;> omega
        rw [if_neg c2, wp_ite_t rfl, wp_bind, r_isSg (by omega), wp_some, hP.2.2.1]
        by_cases c3 : isSg (bt bs (qp bs i)) = true
        · rw [if_pos c3, wp_ite_f (by decide)]
          exact fin _ (by rw [ek, if_pos c3]; rfl)
        · rw [if_neg c3, wp_ite_t rfl]
          exact fin _ (by rw [ek, if_neg c3]; rfl)
  · have e0 : bt bs (qp bs i) = 0 := bt_ge (by omega)
    have ep : qp bs i = bs.length := by omega
    have en : qn bs i = qp bs i := by unfold qn; rw [e0, if_neg (by decide), if_neg (by decide), if_neg c]
    have ek : qk bs i = 0 := by unfold qk; rw [e0, if_neg (by decide), if_neg (by decide), if_neg c]
    rw [wp_ite_f (by rw [J_lt (by omega) (by omega) (by omega) (by omega)]; omega)]
    have e1 : (rhsi M2 102 8 0).1 102 3 = J bs.length := by rw [si_1, if_neg (by decide)]; exact k3
    have e2 : (rhsi (rhsi M2 102 8 0) 102 6 (J bs.length)).1 102 3 = J bs.length := by rw [si_1, if_neg (by decide)]; exact e1
    simp only [e1, e2]
    refine (wp_some _ _).mpr (hQ _ (((K2.si (by decide) _).si (by decide) _).si (by decide) _) ⟨((B2.si (by decide) _).si (by decide) _).si (by decide) _, ?_, ?_, ?_, fun h => by omega, fun h => by omega⟩)
    · rw [si_1, if_neg (by decide), si_1, if_pos ⟨rfl, rfl⟩, ep]
    · rw [si_1, if_pos ⟨rfl, rfl⟩, en, ep]
    · rw [si_1, if_neg (by decide), si_1, if_neg (by decide), si_1, if_pos ⟨rfl, rfl⟩, ek]; rfl
end
