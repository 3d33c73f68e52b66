section
variable {Γ : rhG} {T : Tn} {S t cp tln Ln tb : Nat} {md : Md} {L0 : Ar}
theorem c_spread29 (hw : TWf T) (hRH : 0 < tH T → 0 < tR T) (d : t + 10 < S) (hb : isBits (ways (tR T) (tH T)) tb) (hcw : ways (tR T) (tH T) ≤ cp) (h60 : ways (tR T) (tH T) ≤ 60480) (wL0 : WA (tR T) (tH T) L0) {z : Int} {most : Nat} (hz : z.toNat = most) (hz2 : z < 2147483648) (hz3 : -2147483648 ≤ z) (Qp : Int32 × rhM → Prop) : ∀ (dd n : Nat) (M : rhM) (i : Nat),
    i + dd = 60481 → i ≤ (bq T most L0 i).length → GI Γ M S t cp tln Ln tb T L0 md (bq T most L0 i) → (∀ L, L ∈ arrs (bq T most L0 i) → ¬ pM md L) → dd + 1 < n →
    (∀ M', Fr (W2 S t) M M' → GI Γ M' S t cp tln Ln tb T L0 md (FQ T most L0) → fmt (pM md) (FQ T most L0) = none → (∀ j, j ≠ 1 → j ≠ 11 → M'.1 S j = M.1 S j) → Qp (M'.1 S 11, M')) →
    (∀ M' Q' j, Fr (W2 S t) M M' → Q' <+: FQ T most L0 → Q'.length = j + 1 → fmt (pM md) Q' = some j → GI Γ M' S t cp tln Ln tb T L0 md Q' → (∀ j, j ≠ 1 → j ≠ 11 → M'.1 S j = M.1 S j) → Qp (J j, M')) →
    wp (f_X5_spread_29 Γ n M S (J z) (J i)) Qp := by
  have w1 := hw.1
  have w2 := hw.2.1
  intro dd
  induction dd with
  | zero =>
    intro n M i hi hil hG hno hn hN hM
    have := (bq_QW (most := most) wL0 i).len w2 hRH
    omega
  | succ dd ih =>
    intro n M i hi hil hG hno hn hN hM
    obtain ⟨n, rfl⟩ : ∃ k, n = k + 1 := ⟨n - 1, by omega⟩
    have hQW := bq_QW (most := most) wL0 i
    have hQL := hQW.len w2 hRH
    have hS := hG.1.1
    have s2 := hS.2.1
    have sF := hS.2.2.2.2.2.2.1
    have hcp := hS.2.2.2.2.2.2.2.2.2.2.2.2.1
    obtain ⟨tab, hFW⟩ := hG.2.2.1.1
    have hal : (arrs (bq T most L0 i)).length = (bq T most L0 i).length := by simp [arrs]
    have h0 := hFW.1
    rw [hal] at h0
    rw [f_X5_spread_29, wp_ck_t hS.1, s2, wp_ck_t sF.1, h0]
    by_cases c1 : i < (bq T most L0 i).length
    · have hqe := List.getElem?_eq_getElem c1
      have hd := (hG.2.2.1.2 i _ hqe).2.2
      have hdep : dep (bq T most L0 i) i = (bq T most L0 i)[i].2.2.2 := by unfold dep; rw [hqe]
      rw [← hdep] at hd
      have hdb : dep (bq T most L0 i) i ≤ 60480 := by
        sorry
      rw [wp_ite_t (by rw [J_lt (by omega) (by omega) (by omega) (by omega)]; omega), sF.2.2.2.2.2.2.2.2.2.1, wp_ck_t sF.2.2.2.2.1.1, sF.2.2.2.2.1.2, J_toInt (by omega) (by omega), wp_ck_t (by omega), J_clamp (by omega) (by omega), Int.toNat_natCast, hd]
      by_cases c2 : dep (bq T most L0 i) i < most
      · have hbq : bq T most L0 (i + 1) = growA T (bq T most L0 i) i := by rw [bq, if_pos c2]
        rw [wp_ite_t (by rw [J_lt (by omega) (by omega) (by omega) (by omega)]; omega), wp_bind]
        refine c_goOn hw hRH d hb hcw hG hqe hno _ (fun M' b1 b2 b3 b4 => ?_) (fun M' Q' j b1 b2 b3 b4 b5 b6 => ?_)
        · rw [← hbq] at b2 b3
          dsimp only
          rw [wp_ite_t rfl, show (1 : Int32) = J 1 from rfl, J_add, J_suc]
          have hpre := (bq_pre1 T most L0 i).length_le
          exact ih n M' (i + 1) (by omega) (by
            have hpre2 : i + 1 ≤ (bq T most L0 (i + 1)).length := by omega
            exact hpre2) b2 b3 (by omega)
            (fun M'' x1 x2 x3 x4 => hN M'' (b1.trans x1) x2 x3 (fun j a b => by rw [x4 j a b, b4 j a b]))
            (fun M'' Q' j x1 x2 x3 x4 x5 x6 => hM M'' Q' j (b1.trans x1) x2 x3 x4 x5 (fun j a b => by rw [x6 j a b, b4 j a b]))
        · have hj : j < 60481 := by
            have := b5.2.1.len w2 hRH; omega
          dsimp only
          rw [wp_ite_f (by rw [show (-1 : Int32) = J (-1) from rfl, J_eq (by omega) (by omega) (by omega) (by omega)]; omega), wp_some]
          exact hM M' Q' j b1 (by rw [← hbq] at b2; exact b2.trans (bq_FQ (by omega))) b3 b4 b5 b6
      · have hFQ := FQ_eq (T := T) (most := most) (L0 := L0) (i := i) (Or.inr ⟨c1, by omega⟩) (by omega)
        rw [wp_ite_f (by rw [J_lt (by omega) (by omega) (by omega) (by omega)]; omega), wp_some]
        exact hN M (Fr.refl _ _) (by rw [hFQ]; exact hG) (by rw [hFQ]; exact fmt_none.mpr hno) (fun _ _ _ => rfl)
    · have hFQ := FQ_eq (T := T) (most := most) (L0 := L0) (i := i) (Or.inl (by omega)) (by omega)
      rw [wp_ite_f (by rw [J_lt (by omega) (by omega) (by omega) (by omega)]; omega), wp_some]
      exact hN M (Fr.refl _ _) (by rw [hFQ]; exact hG) (by rw [hFQ]; exact fmt_none.mpr hno) (fun _ _ _ => rfl)
end
