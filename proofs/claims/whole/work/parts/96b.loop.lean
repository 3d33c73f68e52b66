section
variable {Γ : rhG} {b : Nat} {T : Tn} {g lb : Int} {L : Ar} {Inv : rhM → List Tr → Prop} {sn dL nL : Nat}
/-- what a walk over all pulls of a stand needs of its invariant -/
def PI1 (b : Nat) (T : Tn) (g lb : Int) (L : Ar) (Inv : rhM → List Tr → Prop) (sn dL nL : Nat) : Prop := ∀ M dl, Inv M dl → MR M ∧ TM M b T g lb ∧ RA M 143 0 144 0 L ∧ M.1 140 sn = J dL ∧ M.1 139 sn = J nL
def PI2 (Inv : rhM → List Tr → Prop) : Prop := ∀ M M' dl, Fr [127, 128, 129, 130] M M' → Inv M dl → Inv M' dl
def PI3 (Γ : rhG) (T : Tn) (L : Ar) (Inv : rhM → List Tr → Prop) (dL nL : Nat) : Prop := ∀ M dl a, Inv M dl → a ∈ pulls T L → wp (f_X12_reaches Γ M 102 (J (stn (tR T) (mvA L a))) (J ((dL + wtA T L a : Nat) : Int)) (J ((nL + 1 : Nat) : Int))) (fun M' => Inv M' (dl ++ [a]))
theorem m_se128 (hG : GK Γ) (hw : TWf T) (h4 : tR T ≤ 4) (h6 : tH T ≤ 6) (wL : WA (tR T) (tH T) L) (i1 : PI1 b T g lb L Inv sn dL nL) (i2 : PI2 Inv) (i3 : PI3 Γ T L Inv dL nL) (hsn : sn < 246960) {f m : Nat} (hf : f < tR T) (hm1 : 1 ≤ m) (hm : m ≤ (rl L f).length) (K : rhM → Nat → Int32 → Int32 → Int32 → Option rhM) (Qp : rhM → Prop) : ∀ (d n : Nat) (M : rhM) (k : Nat) (dl : List Tr), Inv M dl → k + d = tR T → d < n →
    (∀ M', Inv M' (dl ++ pulT T L f m k d) → wp (K M' 102 (J sn) (J f) (J m)) Qp) →
    wp (f_X12_settle_128 K Γ n M 102 (J sn) (J f) (J m) (J k)) Qp := by
  have w1 := hw.1
  have w2 := hw.2.1
  have hlen := wL.len
  have hrl := wL.rl_len hf
  intro d
  induction d with
  | zero =>
    intro n M k dl hI hk hn hK
    obtain ⟨n, rfl⟩ : ∃ k, n = k + 1 := ⟨n - 1, by omega⟩
    obtain ⟨hR, hT, -, -, -⟩ := i1 M dl hI
    rw [f_X12_settle_128, wp_ck_t (GKk102 hG), m_railMany hG hR hT, wp_bind, wp_some, wp_ite_f (by rw [J_lt (by omega) (by omega) (by omega) (by omega)]; omega)]
    exact hK M (by simpa [pulT] using hI)
  | succ d ih =>
    intro n M k dl hI hk hn hK
    obtain ⟨n, rfl⟩ : ∃ k, n = k + 1 := ⟨n - 1, by omega⟩
    obtain ⟨hR, hT, hAt, hD, hN⟩ := i1 M dl hI
    rw [f_X12_settle_128, wp_ck_t (GKk102 hG), m_railMany hG hR hT, wp_bind, wp_some, wp_ite_t (by rw [J_lt (by omega) (by omega) (by omega) (by omega)]; omega), wp_bind]
    refine (m_layAt hG hR hAt (by omega) (by rw [wL.1]; omega)).mono (fun M1 h1 => ?_)
    obtain ⟨F1, A1⟩ := h1
    have R1 := hR.fr F1
    have T1 := hT.fr F1 (by rw [F1.i (by decide)]) (by rw [F1.i (by decide)]) (by rw [F1.i (by decide)]) (by decide)
    rw [wp_bind]
    refine (m_isLawful hG R1 T1 hw A1 wL (J f) (J m) (J k)).mono (fun r hr => ?_)
    obtain ⟨hr1, F2⟩ := hr
    rw [J_toInt (by omega) (by omega), J_toInt (by omega) (by omega), J_toInt (by omega) (by omega), Int.toNat_natCast, Int.toNat_natCast, Int.toNat_natCast] at hr1
    have R2 := R1.fr F2
    have T2 := T1.fr F2 (by rw [F2.i (by decide)]) (by rw [F2.i (by decide)]) (by rw [F2.i (by decide)]) (by decide)
    have A2 := A1.fr F2 (by decide) (by decide)
    have F12 : Fr [127, 128, 129, 130] M r.2 := (F1.sub (by decide)).trans (F2.sub (by decide))
    by_cases c : okP T L f m k
    · rw [hr1, bi_t ⟨by omega, by omega, by omega, c⟩, wp_ite_f (by decide)]
      obtain ⟨c1, c2, c3, c4, c5⟩ := c.1
      have wm := wL.mvd c3 c1 c2 c5
      have hpm : (f, m, k) ∈ pulls T L := pulls_in c
      have T2b := T2
      obtain ⟨hb, e34, e105, e106, e109, e110, e108, e119, e111, e44, e45, g1, g2, l1, l2, e112, e113, e114, e115, e116, e123, e124⟩ := T2b
      rw [MRf20 R2, m_sumOf hG R2 T2 hw A2 wL (q := tw T) e114 (GKk114 hG) (by rw [GKl114 hG]) c1 c5, wp_bind, wp_some, wp_bind]
      refine (m_moves hG R2 w1 w2 A2 wL c1 c2 c3 c4 c5).mono (fun M3 h3 => ?_)
      obtain ⟨F3, A3⟩ := h3
      have F13 : Fr [127, 128, 129, 130] M M3 := F12.trans (F3.sub (by decide))
      have I3 := i2 M M3 dl F13 hI
      obtain ⟨R3, T3, At3, D3, N3⟩ := i1 M3 dl I3
      have hst := m_stateOf hG R3 T3 hw A3 wm
      rw [hst, wp_bind, wp_some, MRf57 R3, wp_ck_t (GKk140 hG), GKl140 hG, J_toInt (by omega) (by omega), wp_ck_t (by omega), MRf56 R3, wp_ck_t (GKk139 hG), GKl139 hG, wp_ck_t (by omega), J_clamp (by omega) (by omega), Int.toNat_natCast, D3, N3, show (1 : Int32) = J 1 from rfl, J_add, J_add, J_suc, wp_bind]
      have := i3 M3 dl (f, m, k) I3 hpm
      refine (this.mono (fun M4 h4' => ?_))
      rw [f_X12_settle_200, show (1 : Int32) = J 1 from rfl, J_add, J_suc]
      rw [pulT_s, if_pos (okb_iff.mpr c)] at hK
      exact ih n M4 (k + 1) _ h4' (by omega) (by omega) (fun M' x => hK M' (by rw [← List.append_assoc]; exact x))
    · rw [hr1, bi_f (fun h => c h.2.2.2), wp_ite_t rfl, f_X12_settle_200, show (1 : Int32) = J 1 from rfl, J_add, J_suc]
      rw [pulT_s, okb_f c] at hK
      simp only [Bool.false_eq_true, if_false, List.nil_append] at hK
      exact ih n r.2 (k + 1) dl (i2 M r.2 dl F12 hI) (by omega) (by omega) hK
theorem m_se98 (hG : GK Γ) (hw : TWf T) (h4 : tR T ≤ 4) (h6 : tH T ≤ 6) (wL : WA (tR T) (tH T) L) (i1 : PI1 b T g lb L Inv sn dL nL) (i2 : PI2 Inv) (i3 : PI3 Γ T L Inv dL nL) (hsn : sn < 246960) {f : Nat} (hf : f < tR T) (K : rhM → Nat → Int32 → Int32 → Option rhM) (Qp : rhM → Prop) : ∀ (d n : Nat) (M : rhM) (m : Nat) (dl : List Tr), Inv M dl → m + d = (rl L f).length → d < n →
    (∀ M', Inv M' (dl ++ pulM T L f (m + 1) d) → wp (K M' 102 (J sn) (J f)) Qp) →
    wp (f_X12_settle_98 K Γ n M 102 (J sn) (J f) (J ((m + 1 : Nat) : Int))) Qp := by
  have w1 := hw.1
  have w2 := hw.2.1
  have hrl := wL.rl_len hf
  have hc := cum_succ L f
  have hcl := wL.le (r := f + 1) (by omega)
  intro d
  have head : ∀ (n : Nat) (M : rhM) (m : Nat) (dl : List Tr), m ≤ 8 → Inv M dl → wp (f_X12_settle_121 (f_X12_settle_98 K Γ n) K Γ M 102 (J sn) (J f) (J ((m + 1 : Nat) : Int)) (J ((m + 1 : Nat) : Int)) (J (cum L (f + 1))) (J (cum L f))) Qp → wp (f_X12_settle_98 K Γ (n + 1) M 102 (J sn) (J f) (J ((m + 1 : Nat) : Int))) Qp := by
    intro n M m dl hm8 hI h
    obtain ⟨hR, hT, hAt, -, -⟩ := i1 M dl hI
    have e1 := hAt.2 f (by rw [wL.1]; exact hf)
    rw [Nat.zero_add] at e1
    rw [f_X12_settle_98, wp_ck_t (GKk102 hG), MRf64 hR, wp_ck_t (GKk144 hG), GKl144 hG, J_toInt (by omega) (by omega), wp_ck_t (by omega), J_clamp (by omega) (by omega), Int.toNat_natCast, e1]
    by_cases e : f = 0
    · subst e
      rw [wp_ite_t (show J ((0 : Nat) : Int) = 0 from rfl)]; exact h
    · obtain ⟨f', rfl⟩ : ∃ k, f = k + 1 := ⟨f - 1, by omega⟩
      have e2 := hAt.2 f' (by rw [wL.1]; omega)
      rw [Nat.zero_add] at e2
      rw [wp_ite_f (by rw [show (0 : Int32) = J 0 from rfl, J_eq (by omega) (by omega) (by omega) (by omega)]; omega), show (1 : Int32) = J 1 from rfl, J_sub, show ((f' + 1 : Nat) : Int) - 1 = f' by omega, J_toInt (by omega) (by omega), wp_ck_t (by omega), J_clamp (by omega) (by omega), Int.toNat_natCast, e2]
      exact h
  induction d with
  | zero =>
    intro n M m dl hI hm hn hK
    obtain ⟨n, rfl⟩ : ∃ k, n = k + 1 := ⟨n - 1, by omega⟩
    refine head n M m dl (by omega) hI ?_
    rw [f_X12_settle_121, J_sub, wp_ite_t (by rw [J_lt (by omega) (by omega) (by omega) (by omega)]; omega)]
    exact hK M (by simpa [pulM] using hI)
  | succ d ih =>
    intro n M m dl hI hm hn hK
    obtain ⟨n, rfl⟩ : ∃ k, n = k + 1 := ⟨n - 1, by omega⟩
    refine head n M m dl (by omega) hI ?_
    rw [f_X12_settle_121, J_sub, wp_ite_f (by rw [J_lt (by omega) (by omega) (by omega) (by omega)]; omega), show (0 : Int32) = J ((0 : Nat) : Int) from rfl]
    refine m_se128 hG hw h4 h6 wL i1 i2 i3 hsn hf (m := m + 1) (by omega) (by omega) _ Qp (tR T) rhFU M 0 dl hI (by omega) (by have := FU_big; omega) (fun M' a1 => ?_)
    rw [f_X12_settle_206, show (1 : Int32) = J 1 from rfl, J_add, J_suc]
    rw [pulM_s] at hK
    exact ih n M' (m + 1) _ a1 (by omega) (by omega) (fun M'' x => hK M'' (by rw [← List.append_assoc]; exact x))
theorem m_se88 (hG : GK Γ) (hw : TWf T) (h4 : tR T ≤ 4) (h6 : tH T ≤ 6) (wL : WA (tR T) (tH T) L) (i1 : PI1 b T g lb L Inv sn dL nL) (i2 : PI2 Inv) (i3 : PI3 Γ T L Inv dL nL) (hsn : sn < 246960) (K : rhM → Nat → Option rhM) (Qp : rhM → Prop) : ∀ (d n : Nat) (M : rhM) (f : Nat) (dl : List Tr), Inv M dl → f + d = tR T → d < n →
    (∀ M', Inv M' (dl ++ pulF T L f d) → wp (K M' 102) Qp) → wp (f_X12_settle_88 K Γ n M 102 (J sn) (J f)) Qp := by
  have w1 := hw.1
  have w2 := hw.2.1
  intro d
  induction d with
  | zero =>
    intro n M f dl hI hf hn hK
    obtain ⟨n, rfl⟩ : ∃ k, n = k + 1 := ⟨n - 1, by omega⟩
    obtain ⟨hR, hT, -, -, -⟩ := i1 M dl hI
    rw [f_X12_settle_88, wp_ck_t (GKk102 hG), m_railMany hG hR hT, wp_bind, wp_some, wp_ite_f (by rw [J_lt (by omega) (by omega) (by omega) (by omega)]; omega)]
    exact hK M (by simpa [pulF] using hI)
  | succ d ih =>
    intro n M f dl hI hf hn hK
    obtain ⟨n, rfl⟩ : ∃ k, n = k + 1 := ⟨n - 1, by omega⟩
    obtain ⟨hR, hT, -, -, -⟩ := i1 M dl hI
    rw [f_X12_settle_88, wp_ck_t (GKk102 hG), m_railMany hG hR hT, wp_bind, wp_some, wp_ite_t (by rw [J_lt (by omega) (by omega) (by omega) (by omega)]; omega), show (1 : Int32) = J ((0 + 1 : Nat) : Int) from rfl]
    refine m_se98 hG hw h4 h6 wL i1 i2 i3 hsn (by omega) _ Qp (rl L f).length rhFU M 0 dl hI (by omega) (by have := FU_big; have := wL.rl_len (r := f) (by omega); omega) (fun M3 a1 => ?_)
    rw [f_X12_settle_212, show (1 : Int32) = J 1 from rfl, J_add, J_suc]
    rw [pulF_s] at hK
    exact ih n M3 (f + 1) _ a1 (by omega) (by omega) (fun M' x => hK M' (by rw [← List.append_assoc]; exact x))
end
