section
variable {Γ : rhG} {b : Nat} {T : Tn} {g lb : Int} {L0 : Ar} {dw st : Nat → Nat} {Z : List Nat} {B : Nat → Prop}
theorem m_nt21 (hG : GK Γ) (hw : TWf T) (h4 : tR T ≤ 4) (h6 : tH T ≤ 6) {M0 : rhM} {L : Ar} (wL : WA (tR T) (tH T) L) (h0 : NT0 Γ M0 b T g lb L0 dw st Z B L) {f : Nat} (hf : f < tR T) (kE : rhM → Int32 → Int32 → Int32 → Option (Int32 × rhM)) (K : rhM → Nat → Int32 → Int32 → Option (Int32 × rhM)) (Qp : Int32 × rhM → Prop) : ∀ (d n : Nat) (M : rhM) (m : Nat), Fr [127, 128, 129, 130] M0 M → m + d = (rl L f).length → d < n →
    (∀ M' a pre post, Fr [127, 128, 129, 130] M0 M' → RA M' 128 0 129 0 (mvA L a) → pulM T L f (m + 1) d = pre ++ a :: post → tgt T dw st B L a → (∀ x, x ∈ pre → ¬ tgt T dw st B L x) → wp (kE M' (J a.1) (J a.2.1) (J a.2.2)) Qp) →
    ((∀ x, x ∈ pulM T L f (m + 1) d → ¬ tgt T dw st B L x) → ∀ M', Fr [127, 128, 129, 130] M0 M' → wp (K M' 102 (J (stn (tR T) L)) (J f)) Qp) →
    wp (f_X12_nextTight_21 kE K Γ n M 102 (J (stn (tR T) L)) (J f) (J ((m + 1 : Nat) : Int))) Qp := by
  have w1 := hw.1
  have w2 := hw.2.1
  have hrl := wL.rl_len hf
  have hc := cum_succ L f
  have hcl := wL.le (r := f + 1) (by omega)
  have h0' := h0
  obtain ⟨hR0, hT0, hAt0, hST, hB, hLZ⟩ := h0'
  intro d
  have head : ∀ (n : Nat) (M : rhM) (m : Nat), m ≤ 8 → Fr [127, 128, 129, 130] M0 M → wp (f_X12_nextTight_44 (f_X12_nextTight_21 kE K Γ n) kE K Γ M 102 (J (stn (tR T) L)) (J f) (J ((m + 1 : Nat) : Int)) (J ((m + 1 : Nat) : Int)) (J (cum L (f + 1))) (J (cum L f))) Qp → wp (f_X12_nextTight_21 kE K Γ (n + 1) M 102 (J (stn (tR T) L)) (J f) (J ((m + 1 : Nat) : Int))) Qp := by
    intro n M m hm8 hF h
    have hR := hR0.fr hF
    have hAt := hAt0.fr hF (by decide) (by decide)
    have e1 := hAt.2 f (by rw [wL.1]; exact hf)
    rw [Nat.zero_add] at e1
    rw [f_X12_nextTight_21, wp_ck_t (GKk102 hG), MRf64 hR, wp_ck_t (GKk144 hG), GKl144 hG, J_toInt (by omega) (by omega), wp_ck_t (by omega), J_clamp (by omega) (by omega), Int.toNat_natCast, e1]
    by_cases e : f = 0
    · subst e
      rw [wp_ite_t (show J ((0 : Nat) : Int) = 0 from rfl)]; exact h
    · obtain ⟨f', rfl⟩ : ∃ k, f = k + 1 := ⟨f - 1, by omega⟩
      have e2 := hAt.2 f' (by rw [wL.1]; omega)
      rw [Nat.zero_add] at e2
      rw [wp_ite_f (by rw [show (0 : Int32) = J 0 from rfl, J_eq (by omega) (by omega) (by omega) (by omega)]; omega), show (1 : Int32) = J 1 from rfl, J_sub, show ((f' + 1 : Nat) : Int) - 1 = f' by omega, J_toInt (by omega) (by omega), wp_ck_t (by omega), J_clamp (by omega) (by omega), Int.toNat_natCast, e2]
      exact h
  induction d with
  | zero =>
    intro n M m hF hm hn hE hK
    obtain ⟨n, rfl⟩ : ∃ k, n = k + 1 := ⟨n - 1, by omega⟩
    refine head n M m (by omega) hF ?_
    rw [f_X12_nextTight_44, J_sub, wp_ite_t (by rw [J_lt (by omega) (by omega) (by omega) (by omega)]; omega)]
    exact hK (by simp [pulM]) M hF
  | succ d ih =>
    intro n M m hF hm hn hE hK
    obtain ⟨n, rfl⟩ : ∃ k, n = k + 1 := ⟨n - 1, by omega⟩
    refine head n M m (by omega) hF ?_
    rw [pulM_s] at hE hK
    rw [f_X12_nextTight_44, J_sub, wp_ite_f (by rw [J_lt (by omega) (by omega) (by omega) (by omega)]; omega), show (0 : Int32) = J ((0 : Nat) : Int) from rfl]
    refine m_nt51 hG hw h4 h6 wL h0 hf (m := m + 1) (by omega) (by omega) _ _ Qp (tR T) rhFU M 0 hF (by omega) (by have := FU_big; omega) (fun M' a pre post y1 y2 y3 y4 y5 => hE M' a pre (post ++ pulM T L f (m + 1 + 1) d) y1 y2 (by rw [y3, List.append_assoc]; rfl) y4 y5) (fun hx M' a1 => ?_)
    rw [f_X12_nextTight_170, show (1 : Int32) = J 1 from rfl, J_add, J_suc]
    refine ih n M' (m + 1) a1 (by omega) (by omega) (fun M' a pre post y1 y2 y3 y4 y5 => hE M' a (pulT T L f (m + 1) 0 (tR T) ++ pre) post y1 y2 (by rw [y3, List.append_assoc]) y4 (fun x hx' => ?_)) (fun hx2 => hK (fun x hx' => ?_))
    · rcases List.mem_append.mp hx' with e | e
      · exact hx x e
      · exact y5 x e
    · rcases List.mem_append.mp hx' with e | e
      · exact hx x e
      · exact hx2 x e
theorem m_nt11 (hG : GK Γ) (hw : TWf T) (h4 : tR T ≤ 4) (h6 : tH T ≤ 6) {M0 : rhM} {L : Ar} (wL : WA (tR T) (tH T) L) (h0 : NT0 Γ M0 b T g lb L0 dw st Z B L) (kE : rhM → Int32 → Int32 → Int32 → Option (Int32 × rhM)) (Qp : Int32 × rhM → Prop) : ∀ (d n : Nat) (M : rhM) (f : Nat), Fr [127, 128, 129, 130] M0 M → f + d = tR T → d < n →
    (∀ M' a pre post, Fr [127, 128, 129, 130] M0 M' → RA M' 128 0 129 0 (mvA L a) → pulF T L f d = pre ++ a :: post → tgt T dw st B L a → (∀ x, x ∈ pre → ¬ tgt T dw st B L x) → wp (kE M' (J a.1) (J a.2.1) (J a.2.2)) Qp) →
    ((∀ x, x ∈ pulF T L f d → ¬ tgt T dw st B L x) → ∀ M', Fr [127, 128, 129, 130] M0 M' → Qp (-1, M')) →
    wp (f_X12_nextTight_11 kE Γ n M 102 (J (stn (tR T) L)) (J f)) Qp := by
  have w1 := hw.1
  have w2 := hw.2.1
  have h0' := h0
  obtain ⟨hR0, hT0, hAt0, hST, hB, hLZ⟩ := h0'
  intro d
  induction d with
  | zero =>
    intro n M f hF hf hn hE hK
    obtain ⟨n, rfl⟩ : ∃ k, n = k + 1 := ⟨n - 1, by omega⟩
    have hR := hR0.fr hF
    have hT := hT0.fr hF (by rw [hF.i (by decide)]) (by rw [hF.i (by decide)]) (by rw [hF.i (by decide)]) (by decide)
    rw [f_X12_nextTight_11, wp_ck_t (GKk102 hG), m_railMany hG hR hT, wp_bind, wp_some, wp_ite_f (by rw [J_lt (by omega) (by omega) (by omega) (by omega)]; omega), wp_some]
    exact hK (by simp [pulF]) M hF
  | succ d ih =>
    intro n M f hF hf hn hE hK
    obtain ⟨n, rfl⟩ : ∃ k, n = k + 1 := ⟨n - 1, by omega⟩
    have hR := hR0.fr hF
    have hT := hT0.fr hF (by rw [hF.i (by decide)]) (by rw [hF.i (by decide)]) (by rw [hF.i (by decide)]) (by decide)
    rw [pulF_s] at hE hK
    rw [f_X12_nextTight_11, wp_ck_t (GKk102 hG), m_railMany hG hR hT, wp_bind, wp_some, wp_ite_t (by rw [J_lt (by omega) (by omega) (by omega) (by omega)]; omega), show (1 : Int32) = J ((0 + 1 : Nat) : Int) from rfl]
    refine m_nt21 hG hw h4 h6 wL h0 (by omega) _ _ Qp (rl L f).length rhFU M 0 hF (by omega) (by have := FU_big; have := wL.rl_len (r := f) (by omega); omega) (fun M' a pre post y1 y2 y3 y4 y5 => hE M' a pre (post ++ pulF T L (f + 1) d) y1 y2 (by rw [Nat.zero_add] at y3; rw [y3, List.append_assoc]; rfl) y4 y5) (fun hx M3 a1 => ?_)
    rw [Nat.zero_add] at hx
    rw [f_X12_nextTight_176, show (1 : Int32) = J 1 from rfl, J_add, J_suc]
    refine ih n M3 (f + 1) a1 (by omega) (by omega) (fun M' a pre post y1 y2 y3 y4 y5 => hE M' a (pulM T L f 1 (rl L f).length ++ pre) post y1 y2 (by rw [y3, List.append_assoc]) y4 (fun x hx' => ?_)) (fun hx2 => hK (fun x hx' => ?_))
    · rcases List.mem_append.mp hx' with e | e
      · exact hx x e
      · exact y5 x e
    · rcases List.mem_append.mp hx' with e | e
      · exact hx x e
      · exact hx2 x e
/-- the first tight pull to a good state -/
theorem m_nextTight (hG : GK Γ) (hw : TWf T) (h4 : tR T ≤ 4) (h6 : tH T ≤ 6) {M : rhM} (hR : MR M) (hT : TM M b T g lb) {L : Ar} (wL : WA (tR T) (tH T) L) (hST : ST M T L0 dw st Z) (hB : ∀ s, s ∈ Z → M.1 142 s = bi (B s)) (hLZ : stn (tR T) L ∈ Z) (Qp : Int32 × rhM → Prop)
    (hE : ∀ M' a pre post, Fr [127, 128, 129, 130, 143, 144] M M' → RA M' 128 0 129 0 (mvA L a) → pulls T L = pre ++ a :: post → tgt T dw st B L a → (∀ x, x ∈ pre → ¬ tgt T dw st B L x) → Qp (J (cdT a), M'))
    (hK : (∀ x, x ∈ pulls T L → ¬ tgt T dw st B L x) → ∀ M', Fr [127, 128, 129, 130, 143, 144] M M' → Qp (-1, M')) :
    wp (f_X12_nextTight Γ M 102 (J (stn (tR T) L))) Qp := by
  rw [f_X12_nextTight, wp_ck_t (GKk102 hG), wp_bind]
  refine (m_layState hG hR hT hw wL h4 h6).mono (fun M1 h1 => ?_)
  obtain ⟨F1, A1⟩ := h1
  have R1 := hR.fr F1
  have T1 := hT.fr F1 (by rw [F1.i (by decide)]) (by rw [F1.i (by decide)]) (by rw [F1.i (by decide)]) (by decide)
  rw [wp_bind]
  refine (m_keepAt hG R1 A1 (by rw [wL.len]; exact hw.2.1) (by rw [wL.1]; exact hw.1)).mono (fun M2 h2 => ?_)
  obtain ⟨F2, A2⟩ := h2
  have R2 := R1.fr F2
  have T2 := T1.fr F2 (by rw [F2.i (by decide)]) (by rw [F2.i (by decide)]) (by rw [F2.i (by decide)]) (by decide)
  have F12 : Fr [128, 129, 130, 143, 144] M M2 := (F1.sub (by decide)).trans (F2.sub (by decide))
  have hST2 : ST M2 T L0 dw st Z := by
    obtain ⟨h1, h2, h3, h4⟩ := hST
    exact ⟨fun s hs => by rw [F12.i (by decide), F12.i (by decide)]; exact h1 s hs, by rw [F12.i (by decide)]; exact h2, by rw [F12.i (by decide)]; exact h3, h4⟩
  rw [show (0 : Int32) = J ((0 : Nat) : Int) from rfl]
  refine m_nt11 hG hw h4 h6 wL ⟨R2, T2, A2, hST2, fun s hs => by rw [F12.i (by decide)]; exact hB s hs, hLZ⟩ _ Qp (tR T) rhFU M2 0 (Fr.refl _ _) (by omega) (by have := FU_big; have := hw.1; omega) (fun M' a pre post y1 y2 y3 y4 y5 => ?_) (fun hx M' y => hK hx M' ((F12.sub (by decide)).trans (y.sub (by decide))))
  rw [f_X12_nextTight_151, show (100 : Int32) = J 100 from rfl, show (10 : Int32) = J 10 from rfl, J_mul, J_mul, J_add, J_add, wp_some]
  have := hE M' a pre post ((F12.sub (by decide)).trans (y1.sub (by decide))) y2 y3 y4 y5
  have e : (100 * (a.1 : Int) + 10 * (a.2.1 : Int) + (a.2.2 : Int)) = ((cdT a : Nat) : Int) := by unfold cdT; omega
  rw [e]; exact this
end
