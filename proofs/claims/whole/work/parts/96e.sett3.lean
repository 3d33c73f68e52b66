section
variable {Γ : rhG} {b : Nat} {T : Tn} {g lb : Int} {L0 : Ar}
theorem m_set2 (hG : GK Γ) (K : rhM → Nat → Option rhM) (Q : rhM → Prop) : ∀ (d n : Nat) (M : rhM) (k : Nat), MR M → k + d = 246960 → d < n →
    (∀ M', Fr [139] M M' → (∀ i, M'.1 139 i = if k ≤ i ∧ i < 246960 then J (-1) else M.1 139 i) → wp (K M' 102) Q) → wp (f_X12_settle_2 K Γ n M 102 (J k)) Q := by
  intro d
  induction d with
  | zero =>
    intro n M k hR hk hn hK
    obtain ⟨n, rfl⟩ : ∃ k, n = k + 1 := ⟨n - 1, by omega⟩
    rw [f_X12_settle_2, wp_ite_f (by rw [show (246960 : Int32) = J 246960 from rfl, J_lt (by omega) (by omega) (by omega) (by omega)]; omega)]
    exact hK M (Fr.refl _ _) (fun i => by rw [if_neg (by omega)])
  | succ d ih =>
    intro n M k hR hk hn hK
    obtain ⟨n, rfl⟩ : ∃ k, n = k + 1 := ⟨n - 1, by omega⟩
    rw [f_X12_settle_2, wp_ite_t (by rw [show (246960 : Int32) = J 246960 from rfl, J_lt (by omega) (by omega) (by omega) (by omega)]; omega), wp_ck_t (GKk102 hG), MRf56 hR, wp_ck_t (GKk139 hG), GKl139 hG, J_toInt (by omega) (by omega), wp_ck_t (by omega), J_clamp (by omega) (by omega), Int.toNat_natCast]
    dsimp only
    rw [show (1 : Int32) = J 1 from rfl, show (-(J 1) : Int32) = J (-1) from rfl, J_add, J_suc]
    have hF : Fr [139] M (rhsi M 139 k (J (-1))) := (Fr.refl _ _).si (by simp) _ _
    refine ih n _ (k + 1) hR (by omega) (by omega) (fun M' a e => hK M' (hF.trans a) (fun i => ?_))
    rw [e, si_1]
    by_cases c : i = k
    · rw [if_neg (by omega), if_pos ⟨rfl, c⟩, if_pos (by omega)]
    · by_cases c2 : k + 1 ≤ i ∧ i < 246960
      · rw [if_pos c2, if_pos (by omega)]
      · rw [if_neg c2, if_neg (by omega), if_neg (by omega)]
theorem m_settle (hG : GK Γ) {M : rhM} (hR : MR M) (hT : TM M b T g lb) (hw : TWf T) (hRH : 0 < tH T → 0 < tR T) (h4 : tR T ≤ 4) (h6 : tH T ≤ 6) (hA : RA M 131 0 132 0 L0) (w0 : WA (tR T) (tH T) L0) (Q : rhM → Prop)
    (hQ : ∀ M' dw st Z, Fr WS M M' → MR M' → TM M' b T g lb → (∀ k, k ≠ 70 → k ≠ 71 → M'.1 102 k = M.1 102 k) → ST M' T L0 dw st Z → Q M') : wp (f_X12_settle Γ M 102) Q := by
  have w1 := hw.1
  have w2 := hw.2.1
  have hIJ : IJ T := stn_inj hG hR hT hw h4 h6
  rw [f_X12_settle, show (0 : Int32) = J ((0 : Nat) : Int) from rfl]
  refine m_set2 hG _ Q 246960 rhFU M 0 hR (by omega) (by have := FU_big; omega) (fun M1 F1 h1 => ?_)
  have R1 := hR.fr F1
  have hF2 : Fr [102] M1 (rhsi (rhsi M1 102 70 (J 0)) 102 71 (J 0)) := ((Fr.refl _ _).si (by simp) _ _).si (by simp) _ _
  have e2 : ∀ k, (rhsi (rhsi M1 102 70 (J 0)) 102 71 (J 0)).1 102 k = if k = 70 ∨ k = 71 then J 0 else M1.1 102 k := fun k => by
    rw [si_1]
    by_cases c : k = 71
    · rw [if_pos ⟨rfl, c⟩, if_pos (Or.inr c)]
    · rw [if_neg (by omega), si_1]
      by_cases c2 : k = 70
      · rw [if_pos ⟨rfl, c2⟩, if_pos (Or.inl c2)]
      · rw [if_neg (by omega), if_neg (by omega)]
  rw [f_X12_settle_21, wp_ck_t (GKk102 hG)]
  dsimp only
  rw [show (0 : Int32) = J 0 from rfl]
  generalize rhsi (rhsi M1 102 70 (J 0)) 102 71 (J 0) = M2 at *
  have R2 := R1.fr hF2
  have F12 : Fr [102, 139] M M2 := (F1.sub (by decide)).trans (hF2.sub (by decide))
  have T2 := hT.fr F12 (by rw [e2, if_neg (by decide), F1.i (by decide)]) (by rw [e2, if_neg (by decide), F1.i (by decide)]) (by rw [e2, if_neg (by decide), F1.i (by decide)]) (by decide)
  rw [wp_bind]
  refine (m_layNow hG R2 (hA.fr F12 (by decide) (by decide)) (by rw [w0.len]; exact w2) (by rw [w0.1]; exact w1)).mono (fun M3 h3 => ?_)
  obtain ⟨F3, A3⟩ := h3
  have R3 := R2.fr F3
  have T3 := T2.fr F3 (by rw [F3.i (by decide)]) (by rw [F3.i (by decide)]) (by rw [F3.i (by decide)]) (by decide)
  have hst := m_stateOf hG R3 T3 hw A3 w0
  have hsl := stn_lt w0 h6
  rw [hst, wp_bind, wp_some, wp_bind]
  have e3 : ∀ k, M3.1 102 k = if k = 70 ∨ k = 71 then J 0 else M.1 102 k := fun k => by rw [F3.i (by decide), e2, F1.i (by decide)]
  have F13 : Fr [102, 128, 129, 139] M M3 := (F12.sub (by decide)).trans (F3.sub (by decide))
  have hK3 : HK M3 (fun _ => False) (fun _ => 0) (fun _ => 0) (fun _ => 0) 0 := ⟨fun s hs _ => by rw [F3.i (by decide), hF2.i (by decide), h1, if_pos (by omega)], fun s hs => hs.elim, ⟨by rw [e3, if_pos (Or.inl rfl)]; rfl, by omega, fun j k hj => by omega, fun j hj => by omega⟩, fun j _ hj => by omega, fun j hj => by omega⟩
  have mr := m_reaches hG R3 hK3 hsl (b := 0) (pl := 0) (by omega) (by omega) (by omega) (fun h => h.elim) (fun M' => wp (f_X12_settle_45 Γ rhFU M' 102) Q) (fun h => h.elim) (fun M4 hp' n' c1 c2 c3 c4 c5 c6 c7 => ?_)
  · exact mr
  · have hn' : n' = 1 := c7 id
    subst hn'
    have R4 := R3.fr c2
    have T4 := T3.fr c2 (c3 34 (by decide)) (c3 44 (by decide)) (c3 45 (by decide)) (by decide)
    have hs0 : hp' 0 = stn (tR T) L0 := by
      rcases (c5 (hp' 0)).mp ⟨0, by omega, rfl⟩ with e | ⟨j, hj, -⟩
      · exact e
      · omega
    refine m_se45 hG hw hRH h4 h6 hIJ w0 Q hQ 60481 rhFU M4 [] (by simp) (by have := FU_big; omega) ⟨_, _, _, hp', 1, R4, T4, (F13.sub (by decide)).trans (c2.sub (by decide)), fun k k1 k2 => by rw [c3 k k1, e3, if_neg (by omega)], ⟨?_, trivial⟩, c4, ⟨fun s => ?_, ⟨List.nodup_nil, (fun j hj h => by cases h), (fun j k hj hk _ => by omega)⟩, fun s hs => ?_, (fun p s hp1 => by simp at hp1), (fun j hj => ?_), (fun z j hz => by cases hz), (fun p q z y _ hz => by simp at hz), Or.inr rfl, ?_⟩, (fun L' a' _ hP => by cases hP)⟩
    · rw [c3 71 (by decide), e3, if_pos (Or.inr rfl)]; rfl
    · constructor
      · rintro (h | h)
        · exact h.elim
        · exact Or.inr ⟨0, by omega, hs0.trans h.symm⟩
      · rintro (h | ⟨j, hj, e⟩)
        · cases h
        · have : j = 0 := by omega
          subst this
          exact Or.inr (e.symm.trans hs0)
    · rcases hs with h | h
      · exact h.elim
      · subst h
        exact ⟨L0, [], w0, rfl, ⟨rfl, by rw [uN_eq]⟩, by rw [uN_eq]; rfl⟩
    · have : j = 0 := by omega
      subst this
      rw [hs0, uN_eq]; exact Nat.le_refl _
    · rw [kk_set, if_pos rfl]
end
