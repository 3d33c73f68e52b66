section
variable {Γ : rhG} {Rs : Nat → Prop} {dw st : Nat → Nat}
theorem m_tf162 (hG : GK Γ) {M : rhM} (hR : MR M) {f : Nat} (hf : f < 246960) (Q : Int32 × rhM → Prop) (hQ : ∀ M', Fr [147] M M' → (∀ j, j ≠ f → M'.1 147 j = M.1 147 j) → Q (J f, M')) : wp (f_X12_takeFirst_162 Γ M 102 (J f)) Q := by
  rw [f_X12_takeFirst_162, wp_ck_t (GKk102 hG), MRf68 hR, wp_ck_t (GKk147 hG), GKl147 hG, J_toInt (by omega) (by omega), wp_ck_t (by omega), J_clamp (by omega) (by omega), Int.toNat_natCast, wp_some]
  exact hQ _ ((Fr.refl _ _).si (by simp) _ _) (fun j hj => by rw [si_1, if_neg (by omega)])
theorem HM_147 {M M' : rhM} {hp : Nat → Nat} {n f : Nat} (h : HM M hp n) (hF : Fr [147] M M') (e : ∀ j, j ≠ f → M'.1 147 j = M.1 147 j) (hf : ∀ j, j < n → hp j ≠ f) : HM M' hp n := by
  obtain ⟨h1, h2, h3, h4⟩ := h
  refine ⟨by rw [hF.i (by decide)]; exact h1, h2, h3, fun j hj => ⟨(h4 j hj).1, fun hn => ?_⟩⟩
  rw [hF.i (by decide), e _ (hf j hj)]; exact (h4 j hj).2 hn
theorem m_tf43 (hG : GK Γ) {f : Nat} (hf : f < 246960) (Q : Int32 × rhM → Prop) : ∀ (d k : Nat) (M : rhM) (hp : Nat → Nat) (n i : Nat), i + d = n → MR M → KM M Rs dw st → HX M hp n i → i < n → (∀ j, j < n → Rs (hp j)) → (∀ j, j < n → hp j ≠ f) → (∀ j, 0 < j → j < n → (j - 1) / 2 ≠ i → kk dw st (hp ((j - 1) / 2)) ≤ kk dw st (hp j)) → (∀ j, 0 < j → j < n → (j - 1) / 2 = i → 0 < i → kk dw st (hp ((i - 1) / 2)) ≤ kk dw st (hp j)) → d + 1 < k →
    (∀ M' hp', Fr [146, 147] M M' → HM M' hp' n → HP hp' n (kk dw st) → Same hp hp' n → Q (J f, M')) →
    wp (f_X12_takeFirst_43 (f_X12_takeFirst_149 Γ) Γ k M 102 (J f) (J (hp i)) (J i) 1) Q := by
  intro d
  induction d using Nat.strongRecOn with
  | _ d ih =>
    intro k M hp n i hd hR hK hX hi hRs hnf h1 h2 hk hQ
    obtain ⟨k, rfl⟩ : ∃ m, k = m + 1 + 1 := ⟨k - 2, by omega⟩
    have hn := hX.2.1
    have his := (hX.2.2.2 i hi).1
    have h70 := hX.1
    -- where it stops
    have stop : HP hp n (kk dw st) → wp (f_X12_takeFirst_43 (f_X12_takeFirst_149 Γ) Γ (k + 1) M 102 (J f) (J (hp i)) (J i) 0) Q := by
      intro hP
      rw [f_X12_takeFirst_43, wp_ite_t rfl, f_X12_takeFirst_149, wp_ck_t (GKk102 hG), h70, wp_ite_t (by rw [show (0 : Int32) = J 0 from rfl, J_lt (by omega) (by omega) (by omega) (by omega)]; omega), wp_bind]
      refine m_hput hG hR (by omega) his _ (fun M1 F1 e1 e2 => ?_)
      have hM1 := HX_fill hX hi F1 e1 e2
      refine m_tf162 hG (hR.fr F1) hf Q (fun M2 F2 e3 => ?_)
      exact hQ M2 hp (F1.trans (F2.sub (by decide))) (HM_147 hM1 F2 e3 hnf) hP (fun _ => Iff.rfl)
    -- with the lighter child c
    have child : ∀ c : Nat, (c = 2 * i + 1 ∨ c = 2 * i + 2) → (c < n → ∀ j, 0 < j → j < n → (j - 1) / 2 = i → kk dw st (hp c) ≤ kk dw st (hp j)) → (n ≤ c → 2 * i + 1 ≥ n) → wp (f_X12_takeFirst_92 (f_X12_takeFirst_43 (f_X12_takeFirst_149 Γ) Γ (k + 1)) Γ M 102 (J f) (J (hp i)) (J i) (J c)) Q := by
      intro c hc hmin hbig
      rw [f_X12_takeFirst_92, wp_ck_t (GKk102 hG), h70]
      by_cases cc : c < n
      · have hci : c ≠ i := by omega
        have hcp := ((hX.2.2.2 c cc).2 hci).1
        have hcs := (hX.2.2.2 c cc).1
        have hbef := m_bef hG hR hK (hRs c cc) (hRs i hi)
        rw [wp_ite_t (by rw [J_lt (by omega) (by omega) (by omega) (by omega)]; omega), MRf67 hR, wp_ck_t (GKk146 hG), GKl146 hG, J_toInt (by omega) (by omega), wp_ck_t (by omega), J_clamp (by omega) (by omega), Int.toNat_natCast, hcp, hbef, wp_bind, wp_some]
        by_cases cb : kk dw st (hp c) < kk dw st (hp i)
        · rw [bi_t cb, wp_ite_f (by decide), f_X12_takeFirst_121, wp_ite_f (by decide), wp_ck_t (GKk102 hG), MRf67 hR, wp_ck_t (GKk146 hG), GKl146 hG, J_toInt (by omega) (by omega), wp_ck_t (by omega), J_clamp (by omega) (by omega), Int.toNat_natCast, hcp, wp_bind]
          refine m_hput hG hR (by omega) hcs _ (fun M1 F1 f1 f2 => ?_)
          have hX1 := HX_put hX hi cc hci F1 f1 f2
          have hv : ∀ j, sw hp i c j = if j = c then hp i else if j = i then hp c else hp j := fun j => by unfold sw uN; rfl
          have hS := Same_sw (hp := hp) hi cc
          have hself : sw hp i c c = hp i := by rw [hv, if_pos rfl]
          have hset : ∀ j, j < n → ∃ j', j' < n ∧ hp j' = sw hp i c j := fun j hj => (hS _).mp ⟨j, hj, rfl⟩
          have := ih (n - c) (by omega) (k + 1) M1 (sw hp i c) n c (by omega) (hR.fr F1) (fun s hs => by rw [F1.i (by decide), F1.i (by decide)]; exact hK s hs) hX1 cc (fun j hj => by
            obtain ⟨j', hj', e⟩ := hset j hj
            rw [← e]; exact hRs j' hj') (fun j hj => by
            obtain ⟨j', hj', e⟩ := hset j hj
            rw [← e]; exact hnf j' hj') (fun j j0 jn jne => ?_) (fun j j0 jn jp p0 => ?_) (by omega) (fun M' hp' a1 a2 a3 a4 => hQ M' hp' (F1.trans a1) a2 a3 (hS.trans a4))
          · rw [hself] at this
            exact this
          · rw [hv, if_neg jne, hv]
            by_cases j1 : (j - 1) / 2 = i
            · rw [if_pos j1]
              by_cases j2 : j = c
              · rw [if_pos j2]; omega
              · rw [if_neg j2, if_neg (by omega)]; exact hmin cc j j0 jn j1
            · rw [if_neg j1]
              by_cases j2 : j = c
              · exfalso; omega
              · rw [if_neg j2]
                by_cases j3 : j = i
                · rw [if_pos j3, j3]
                  exact h2 c (by omega) cc (by omega) (by omega)
                · rw [if_neg j3]; exact h1 j j0 jn j1
          · have hcp2 : (c - 1) / 2 = i := by omega
            rw [hcp2, hv, if_neg (by omega), if_pos rfl, hv, if_neg (by omega), if_neg (by omega)]
            have := h1 j j0 jn (by omega)
            rw [jp] at this; exact this
        · rw [bi_f cb, wp_ite_t rfl, f_X12_takeFirst_120, f_X12_takeFirst_121, wp_ite_t rfl]
          refine stop (fun j j0 jn => ?_)
          by_cases j1 : (j - 1) / 2 = i
          · have := hmin cc j j0 jn j1
            rw [j1]; omega
          · exact h1 j j0 jn j1
      · have hb := hbig (by omega)
        rw [wp_ite_f (by rw [J_lt (by omega) (by omega) (by omega) (by omega)]; omega), f_X12_takeFirst_120, f_X12_takeFirst_121, wp_ite_t rfl]
        refine stop (fun j j0 jn => h1 j j0 jn (by omega))
    rw [f_X12_takeFirst_43, wp_ite_f (by decide)]
    dsimp only
    rw [show (2 : Int32) = J 2 from rfl, show (1 : Int32) = J 1 from rfl, J_mul, J_add, J_add, show (2 : Int) * i + 1 + 1 = ((2 * i + 2 : Nat) : Int) by omega, show (2 : Int) * i + 1 = ((2 * i + 1 : Nat) : Int) by omega, wp_ck_t (GKk102 hG), h70]
    by_cases c2 : 2 * i + 2 < n
    · have ha := ((hX.2.2.2 (2 * i + 2) c2).2 (by omega)).1
      have hb := ((hX.2.2.2 (2 * i + 1) (by omega)).2 (by omega)).1
      have hbef := m_bef hG hR hK (hRs _ c2) (hRs (2 * i + 1) (by omega))
      rw [wp_ite_t (by rw [J_lt (by omega) (by omega) (by omega) (by omega)]; omega), MRf67 hR, wp_ck_t (GKk146 hG), GKl146 hG, J_toInt (by omega) (by omega), wp_ck_t (by omega), J_toInt (by omega) (by omega), wp_ck_t (by omega), J_clamp (by omega) (by omega), J_clamp (by omega) (by omega), Int.toNat_natCast, Int.toNat_natCast, ha, hb, hbef, wp_bind, wp_some]
      by_cases cb : kk dw st (hp (2 * i + 2)) < kk dw st (hp (2 * i + 1))
      · rw [bi_t cb, wp_ite_f (by decide)]
        refine child (2 * i + 2) (Or.inr rfl) (fun _ j j0 jn jp => ?_) (fun h => by omega)
        have : j = 2 * i + 1 ∨ j = 2 * i + 2 := by omega
        rcases this with rfl | rfl
        · omega
        · exact Nat.le_refl _
      · rw [bi_f cb, wp_ite_t rfl]
        refine child (2 * i + 1) (Or.inl rfl) (fun _ j j0 jn jp => ?_) (fun h => by omega)
        have : j = 2 * i + 1 ∨ j = 2 * i + 2 := by omega
        rcases this with rfl | rfl
        · exact Nat.le_refl _
        · omega
    · rw [wp_ite_f (by rw [J_lt (by omega) (by omega) (by omega) (by omega)]; omega)]
      refine child (2 * i + 1) (Or.inl rfl) (fun hc j j0 jn jp => ?_) (fun h => by omega)
      have : j = 2 * i + 1 := by omega
      rw [this]; exact Nat.le_refl _
theorem HP_min {hp : Nat → Nat} {n : Nat} {k : Nat → Nat} (h : HP hp n k) : ∀ j, j < n → k (hp 0) ≤ k (hp j) := by
  intro j
  induction j using Nat.strongRecOn with
  | _ j ih =>
    intro hj
    by_cases c : 0 < j
    · exact Nat.le_trans (ih ((j - 1) / 2) (by omega) (by omega)) (h j c hj)
    · rw [show j = 0 by omega]; exact Nat.le_refl _
theorem m_takeFirst (hG : GK Γ) {M : rhM} (hR : MR M) (hK : KM M Rs dw st) {hp : Nat → Nat} {n : Nat} (hM : HM M hp (n + 1)) (hP : HP hp (n + 1) (kk dw st)) (hRs : ∀ j, j < n + 1 → Rs (hp j)) (Q : Int32 × rhM → Prop)
    (hQ : ∀ M' hp', Fr [102, 146, 147] M M' → (∀ j, j ≠ 70 → M'.1 102 j = M.1 102 j) → HM M' hp' n → HP hp' n (kk dw st) → (∀ s, (∃ j, j < n ∧ hp' j = s) ↔ (∃ j, j < n + 1 ∧ hp j = s) ∧ s ≠ hp 0) → Q (J (hp 0), M')) :
    wp (f_X12_takeFirst Γ M 102) Q := by
  obtain ⟨h70, hn, hinj, hall⟩ := hM
  have h0 := hall 0 (by omega)
  have h00 := (h0.2 (by omega)).1
  have hln := hall n (by omega)
  have hnn := (hln.2 (by omega)).1
  have F0 : Fr [102] M (rhsi M 102 70 (J n)) := (Fr.refl _ _).si (by simp) _ _
  have e70 : (rhsi M 102 70 (J n)).1 102 70 = J n := by rw [si_1, if_pos ⟨rfl, rfl⟩]
  have e102 : ∀ j, j ≠ 70 → (rhsi M 102 70 (J n)).1 102 j = M.1 102 j := fun j hj => by rw [si_1, if_neg (by omega)]
  rw [f_X12_takeFirst, wp_ck_t (GKk102 hG), MRf67 hR, wp_ck_t (GKk146 hG), GKl146 hG, wp_ck_t (by decide)]
  dsimp only
  rw [h70, show (1 : Int32) = J 1 from rfl, J_sub, show ((n + 1 : Nat) : Int) - 1 = (n : Int) by omega, show (0 : Int32).toNatClampNeg = 0 from rfl, h00, e70, J_toInt (by omega) (by omega), wp_ck_t (by omega), J_clamp (by omega) (by omega), Int.toNat_natCast, F0.i (by decide), hnn]
  generalize rhsi M 102 70 (J n) = M0 at *
  have R0 := hR.fr F0
  have K0 : KM M0 Rs dw st := fun s hs => by rw [F0.i (by decide), F0.i (by decide)]; exact hK s hs
  by_cases c : n = 0
  · subst c
    rw [wp_ite_f (by rw [show (0 : Int32) = J 0 from rfl, J_lt (by omega) (by omega) (by omega) (by omega)]; omega), f_X12_takeFirst_41]
    obtain ⟨N, hN⟩ : ∃ N, rhFU = N + 1 := ⟨rhFU - 1, by have := FU_big2; omega⟩
    rw [hN, f_X12_takeFirst_43, wp_ite_t rfl, f_X12_takeFirst_149, wp_ck_t (GKk102 hG), e70, wp_ite_f (by decide)]
    refine m_tf162 hG R0 h0.1 Q (fun M2 F2 e3 => ?_)
    refine hQ M2 hp ((F0.sub (by decide)).trans (F2.sub (by decide))) (fun j hj => by rw [F2.i (by decide)]; exact e102 j hj) ⟨by rw [F2.i (by decide)]; exact e70, by omega, fun j k hj => by omega, fun j hj => by omega⟩ (fun j _ hj => by omega) (fun s => ⟨fun ⟨j, hj, _⟩ => by omega, fun ⟨⟨j, hj, e⟩, hne⟩ => absurd e.symm (by rw [show j = 0 by omega]; exact hne)⟩)
  · rw [wp_ite_t (by rw [show (0 : Int32) = J 0 from rfl, J_lt (by omega) (by omega) (by omega) (by omega)]; omega), f_X12_takeFirst_41]
    have hv : ∀ j, uN hp 0 (hp n) j = if j = 0 then hp n else hp j := fun j => by unfold uN; rfl
    have hX0 : HX M0 (uN hp 0 (hp n)) n 0 := by
      refine ⟨e70, by omega, fun j k hj hk e => ?_, fun j hj => ?_⟩
      · rw [hv, hv] at e
        by_cases j1 : j = 0
        · by_cases k1 : k = 0
          · omega
          · rw [if_pos j1, if_neg k1] at e; have := hinj n k (by omega) (by omega) e; omega
        · by_cases k1 : k = 0
          · rw [if_neg j1, if_pos k1] at e; have := hinj j n (by omega) (by omega) e; omega
          · rw [if_neg j1, if_neg k1] at e; exact hinj j k (by omega) (by omega) e
      · rw [hv]
        by_cases j1 : j = 0
        · rw [if_pos j1]; exact ⟨hln.1, fun h => absurd j1 h⟩
        · rw [if_neg j1]
          have := hall j (by omega)
          exact ⟨this.1, fun _ => by rw [F0.i (by decide), F0.i (by decide)]; exact this.2 (by omega)⟩
    have hself : uN hp 0 (hp n) 0 = hp n := by rw [hv, if_pos rfl]
    have := m_tf43 hG (f := hp 0) h0.1 Q n rhFU M0 (uN hp 0 (hp n)) n 0 (by omega) R0 K0 hX0 (by omega) (fun j hj => by rw [hv]; split <;> exact hRs _ (by omega)) (fun j hj => by
      rw [hv]
      by_cases j1 : j = 0
      · rw [if_pos j1]; intro e; have := hinj n 0 (by omega) (by omega) e; omega
      · rw [if_neg j1]; intro e; have := hinj j 0 (by omega) (by omega) e; omega) (fun j j0 jn jne => by
      rw [hv, hv, if_neg jne, if_neg (by omega)]; exact hP j j0 (by omega)) (fun j _ _ _ h => by omega) (by have := FU_big2; omega) (fun M' hp' a1 a2 a3 a4 => ?_)
    · rw [hself] at this
      exact this
    · refine hQ M' hp' ((F0.sub (by decide)).trans (a1.sub (by decide))) (fun j hj => by rw [a1.i (by decide)]; exact e102 j hj) a2 a3 (fun s => (a4 s).trans ⟨fun ⟨j, hj, e⟩ => ?_, fun ⟨⟨j, hj, e⟩, hne⟩ => ?_⟩)
      · rw [hv] at e
        by_cases j1 : j = 0
        · rw [if_pos j1] at e
          exact ⟨⟨n, by omega, e⟩, fun h => by rw [← e] at h; have := hinj n 0 (by omega) (by omega) h; omega⟩
        · rw [if_neg j1] at e
          exact ⟨⟨j, by omega, e⟩, fun h => by rw [← e] at h; have := hinj j 0 (by omega) (by omega) h; omega⟩
      · by_cases j1 : j = n
        · exact ⟨0, by omega, by rw [hv, if_pos rfl, ← j1]; exact e⟩
        · by_cases j2 : j = 0
          · rw [j2] at e; exact absurd e.symm hne
          · exact ⟨j, by omega, by rw [hv, if_neg j2]; exact e⟩
end
