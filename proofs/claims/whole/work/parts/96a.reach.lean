/-! A STATE IS REACHED, IN THE REFERENCE -/
def HK (M : rhM) (Rs : Nat → Prop) (dw st : Nat → Nat) (hp : Nat → Nat) (n : Nat) : Prop := (∀ s, s < 246960 → ¬ Rs s → M.1 139 s = J (-1)) ∧ KM M Rs dw st ∧ HM M hp n ∧ HP hp n (kk dw st) ∧ ∀ j, j < n → Rs (hp j)
theorem KM.lt {M : rhM} {Rs : Nat → Prop} {dw st : Nat → Nat} (h : KM M Rs dw st) {s : Nat} (hs : Rs s) : dw s < 2147483648 ∧ st s < 100000 := ⟨(h s hs).2.2.2.1, (h s hs).2.2.2.2⟩
section
variable {Γ : rhG} {Rs : Nat → Prop} {dw st : Nat → Nat}
theorem kk_set {s by' pl x : Nat} : kk (uN dw s by') (uN st s pl) x = if x = s then by' * 100000 + pl else kk dw st x := by
  unfold kk uN
  split <;> rfl
theorem m_rise (hG : GK Γ) {Q : rhM → Prop} {i : Nat} {M : rhM} {hp : Nat → Nat} {n : Nat} (hR : MR M) (hK : KM M Rs dw st) (hX : HX M hp n i) (hpl : M.1 147 (hp i) = J i) (hi : i < n) (hRs : ∀ j, j < n → Rs (hp j)) (h1 : ∀ j, 0 < j → j < n → j ≠ i → kk dw st (hp ((j - 1) / 2)) ≤ kk dw st (hp j)) (h2 : ∀ j, 0 < j → j < n → (j - 1) / 2 = i → 0 < i → kk dw st (hp ((i - 1) / 2)) ≤ kk dw st (hp j))
    (hQ : ∀ M' hp', Fr [146, 147] M M' → HM M' hp' n → HP hp' n (kk dw st) → Same hp hp' n → Q M') : wp (f_X12_rise Γ M 102 (J (hp i))) Q := by
  have hs := (hX.2.2.2 i hi).1
  have hn := hX.2.1
  rw [f_X12_rise, wp_ck_t (GKk102 hG), MRf68 hR, wp_ck_t (GKk147 hG), GKl147 hG, J_toInt (by omega) (by omega), wp_ck_t (by omega)]
  dsimp only
  rw [J_clamp (by omega) (by omega), Int.toNat_natCast, hpl]
  exact m_rise7 hG Q i rhFU M hp n hR hK hX hi hRs h1 h2 (by have := FU_big; omega) hQ
theorem m_reaches (hG : GK Γ) {M : rhM} (hR : MR M) {hp : Nat → Nat} {n s b pl : Nat} (hK : HK M Rs dw st hp n) (hs : s < 246960) (hb : b < 2147483648) (hpl : pl < 100000) (hn : n < 60990) (hin : Rs s → ¬ kk dw st s ≤ b * 100000 + pl → ∃ i, i < n ∧ hp i = s) (Q : rhM → Prop)
    (hA : Rs s → kk dw st s ≤ b * 100000 + pl → Q M)
    (hB : ∀ M' hp' n', ¬ (Rs s ∧ kk dw st s ≤ b * 100000 + pl) → Fr [102, 139, 140, 146, 147] M M' → (∀ k, k ≠ 70 → M'.1 102 k = M.1 102 k) → HK M' (fun x => Rs x ∨ x = s) (uN dw s b) (uN st s pl) hp' n' → (∀ x, (∃ j, j < n' ∧ hp' j = x) ↔ x = s ∨ ∃ j, j < n ∧ hp j = x) → (Rs s → n' = n) → (¬ Rs s → n' = n + 1) → Q M') :
    wp (f_X12_reaches Γ M 102 (J s) (J b) (J pl)) Q := by
  obtain ⟨k1, k2, k3, k4, k5⟩ := hK
  have h70 := k3.1
  have tail : ∀ (v : Int32) , ¬ (Rs s ∧ kk dw st s ≤ b * 100000 + pl) → ((v = 0 ∧ Rs s) ∨ (v = 1 ∧ ¬ Rs s)) → wp (f_X12_reaches_52 Γ M 102 (J s) (J b) (J pl) v) Q := by
    intro v hnot hv
    have hF1 : Fr [102, 139, 140, 146, 147] M (rhsi (rhsi M 140 s (J b)) 139 s (J pl)) := ((Fr.refl _ _).si (by simp) _ _).si (by simp) _ _
    have e0 : ∀ k, (rhsi (rhsi M 140 s (J b)) 139 s (J pl)).1 102 k = M.1 102 k := fun k => by rw [si_1, if_neg (by omega), si_1, if_neg (by omega)]
    have e39 : ∀ k, (rhsi (rhsi M 140 s (J b)) 139 s (J pl)).1 139 k = if k = s then J pl else M.1 139 k := fun k => by
      rw [si_1]
      by_cases c : k = s
      · rw [if_pos ⟨rfl, c⟩, if_pos c]
      · rw [if_neg (by omega), if_neg c, si_1, if_neg (by omega)]
    have e40 : ∀ k, (rhsi (rhsi M 140 s (J b)) 139 s (J pl)).1 140 k = if k = s then J b else M.1 140 k := fun k => by
      rw [si_1, if_neg (by omega), si_1]
      by_cases c : k = s
      · rw [if_pos ⟨rfl, c⟩, if_pos c]
      · rw [if_neg (by omega), if_neg c]
    have e46 : (rhsi (rhsi M 140 s (J b)) 139 s (J pl)).1 146 = M.1 146 := by funext k; rw [si_1, if_neg (by omega), si_1, if_neg (by omega)]
    have e47 : (rhsi (rhsi M 140 s (J b)) 139 s (J pl)).1 147 = M.1 147 := by funext k; rw [si_1, if_neg (by omega), si_1, if_neg (by omega)]
    rw [f_X12_reaches_52, wp_ck_t (GKk102 hG), MRf57 hR, wp_ck_t (GKk140 hG), GKl140 hG, J_toInt (by omega) (by omega), wp_ck_t (by omega), J_clamp (by omega) (by omega), Int.toNat_natCast]
    dsimp only
    rw [MRf56 hR, wp_ck_t (GKk139 hG), GKl139 hG, wp_ck_t (by omega)]
    generalize rhsi (rhsi M 140 s (J b)) 139 s (J pl) = M1 at *
    have R1 := hR.fr hF1
    have K1 : KM M1 (fun x => Rs x ∨ x = s) (uN dw s b) (uN st s pl) := by
      intro x hx
      unfold uN
      by_cases c : x = s
      · rw [c]; refine ⟨hs, by rw [e40, if_pos rfl, if_pos rfl], by rw [e39, if_pos rfl, if_pos rfl], by rw [if_pos rfl]; exact hb, by rw [if_pos rfl]; exact hpl⟩
      · have := k2 x (hx.resolve_right c)
        rw [if_neg c, if_neg c, e40, if_neg c, e39, if_neg c]; exact this
    have k1' : ∀ x, x < 246960 → ¬ (Rs x ∨ x = s) → M1.1 139 x = J (-1) := fun x hx hn' => by
      rw [e39, if_neg (fun h => hn' (Or.inr h))]; exact k1 x hx (fun h => hn' (Or.inl h))
    rcases hv with ⟨rfl, hRs⟩ | ⟨rfl, hRs⟩
    · rw [wp_ite_t rfl, f_X12_reaches_91, wp_ck_t (GKk102 hG), wp_bind]
      have hlt : ¬ kk dw st s ≤ b * 100000 + pl := fun h => hnot ⟨hRs, h⟩
      obtain ⟨i, hi, hps⟩ := hin hRs hlt
      have hX : HX M1 hp n i := by
        refine ⟨by rw [e0]; exact h70, k3.2.1, k3.2.2.1, fun j hj => ⟨(k3.2.2.2 j hj).1, fun _ => ?_⟩⟩
        rw [e46, e47]; exact (k3.2.2.2 j hj).2 (by omega)
      have hpi : ∀ j, j < n → hp j = s → j = i := fun j hj h => k3.2.2.1 j i hj hi (h.trans hps.symm)
      have hkv : ∀ j, j < n → kk (uN dw s b) (uN st s pl) (hp j) ≤ kk dw st (hp j) ∧ (j ≠ i → kk (uN dw s b) (uN st s pl) (hp j) = kk dw st (hp j)) := fun j hj => by
        rw [kk_set]
        by_cases c : hp j = s
        · rw [if_pos c, c]; exact ⟨by omega, fun h => absurd (hpi j hj c) h⟩
        · rw [if_neg c]; exact ⟨Nat.le_refl _, fun _ => rfl⟩
      rw [← hps] at hkv K1 k1' ⊢
      refine m_rise hG R1 K1 hX (by rw [e47]; exact ((k3.2.2.2 i hi).2 (by omega)).2) hi (fun j hj => Or.inl (k5 j hj)) (fun j j0 jn jne => ?_) (fun j j0 jn jp i0 => ?_) (fun M' hp' a1 a2 a3 a4 => ?_)
      · have a := (hkv ((j - 1) / 2) (by omega)).1
        have b' := (hkv j jn).2 jne
        have c := k4 j j0 jn
        omega
      · have a := (hkv ((i - 1) / 2) (by omega)).1
        have b' := (hkv j jn).2 (by omega)
        have c := k4 j j0 jn
        have d := k4 i i0 hi
        rw [jp] at c
        omega
      · rw [wp_some]
        refine hB M' hp' n hnot (hF1.trans (a1.sub (by decide))) (fun k hk => by rw [a1.i (by decide)]; exact e0 k) ⟨fun x hx hx2 => by rw [a1.i (by decide)]; exact k1' x hx (by rw [hps]; exact hx2), fun x hx => ?_, a2, by rw [← hps]; exact a3, fun j hj => ?_⟩ (fun x => ?_) (fun _ => rfl) (fun h => absurd hRs h)
        · rw [a1.i (by decide), a1.i (by decide)]
          have := K1 x (by rw [hps]; exact hx)
          rw [hps] at this; exact this
        · obtain ⟨j', hj', e⟩ := (a4 (hp' j)).mp ⟨j, hj, rfl⟩
          exact Or.inl (by rw [← e]; exact k5 j' hj')
        · rw [a4 x]
          exact ⟨fun h => Or.inr h, fun h => h.elim (fun e => ⟨i, hi, hps.trans e.symm⟩) id⟩
    · have hno : ∀ j, j < n → hp j ≠ s := fun j hj e => hRs (e ▸ k5 j hj)
      rw [wp_ite_f (by decide), MRf68 hR, wp_ck_t (GKk147 hG), GKl147 hG, wp_ck_t (by omega)]
      have hF2 : Fr [102, 139, 140, 146, 147] M1 (rhsi (rhsi M1 147 s (J n)) 102 70 (J ((n + 1 : Nat) : Int))) := ((Fr.refl _ _).si (by simp) _ _).si (by simp) _ _
      have g0 : ∀ k, (rhsi (rhsi M1 147 s (J n)) 102 70 (J ((n + 1 : Nat) : Int))).1 102 k = if k = 70 then J ((n + 1 : Nat) : Int) else M.1 102 k := fun k => by
        rw [si_1]
        by_cases c : k = 70
        · rw [if_pos ⟨rfl, c⟩, if_pos c]
        · rw [if_neg (by omega), if_neg c, si_1, if_neg (by omega), e0]
      have g47 : ∀ k, (rhsi (rhsi M1 147 s (J n)) 102 70 (J ((n + 1 : Nat) : Int))).1 147 k = if k = s then J n else M.1 147 k := fun k => by
        rw [si_1, if_neg (by omega), si_1]
        by_cases c : k = s
        · rw [if_pos ⟨rfl, c⟩, if_pos c]
        · rw [if_neg (by omega), if_neg c, e47]
      have gx : ∀ r k, r ≠ 102 → r ≠ 147 → (rhsi (rhsi M1 147 s (J n)) 102 70 (J ((n + 1 : Nat) : Int))).1 r k = M1.1 r k := fun r k h1 h2 => by
        rw [si_1, if_neg (by omega), si_1, if_neg (by omega)]
      have hst : (rhsi M1 147 s (J n)).1 102 70 = J n := by rw [si_1, if_neg (by omega), e0]; exact h70
      rw [e0, h70, hst, show (1 : Int32) = J 1 from rfl, J_add, J_suc, f_X12_reaches_91, wp_ck_t (GKk102 hG), wp_bind]
      generalize rhsi (rhsi M1 147 s (J n)) 102 70 (J ((n + 1 : Nat) : Int)) = M2 at *
      have hv2 : ∀ j, uN hp n s j = if j = n then s else hp j := fun j => by unfold uN; rfl
      have R2 := R1.fr hF2
      have hX : HX M2 (uN hp n s) (n + 1) n := by
        refine ⟨by rw [g0, if_pos rfl], by omega, fun j k hj hk e => ?_, fun j hj => ?_⟩
        · rw [hv2, hv2] at e
          by_cases c1 : j = n
          · by_cases c2 : k = n
            · omega
            · rw [if_pos c1, if_neg c2] at e; exact absurd e.symm (hno k (by omega))
          · by_cases c2 : k = n
            · rw [if_neg c1, if_pos c2] at e; exact absurd e (hno j (by omega))
            · rw [if_neg c1, if_neg c2] at e; exact k3.2.2.1 j k (by omega) (by omega) e
        · rw [hv2]
          by_cases c1 : j = n
          · rw [if_pos c1]; exact ⟨hs, fun h => absurd c1 h⟩
          · rw [if_neg c1]
            have := k3.2.2.2 j (by omega)
            refine ⟨this.1, fun _ => ?_⟩
            rw [gx _ _ (by decide) (by decide), e46, g47, if_neg (hno j (by omega))]
            exact this.2 (by omega)
      have hself : uN hp n s n = s := by rw [hv2, if_pos rfl]
      have K2 : KM M2 (fun x => Rs x ∨ x = s) (uN dw s b) (uN st s pl) := fun x hx => by
        rw [gx _ _ (by decide) (by decide), gx _ _ (by decide) (by decide)]; exact K1 x hx
      have hkv : ∀ j, j < n → kk (uN dw s b) (uN st s pl) (hp j) = kk dw st (hp j) := fun j hj => by rw [kk_set, if_neg (hno j hj)]
      have main := m_rise hG (Q := fun M' => wp (some M') Q) R2 K2 hX (by rw [hself, g47, if_pos rfl]) (by omega) (fun j hj => by
        rw [hv2]
        by_cases c1 : j = n
        · rw [if_pos c1]; exact Or.inr rfl
        · rw [if_neg c1]; exact Or.inl (k5 j (by omega))) (fun j j0 jn jne => by
        rw [hv2, hv2, if_neg jne, if_neg (by omega), hkv _ (by omega), hkv _ (by omega)]; exact k4 j j0 (by omega)) (fun j j0 jn jp i0 => by omega) (fun M' hp' a1 a2 a3 a4 => ?_)
      · rw [hself] at main; exact main
      · rw [wp_some]
        refine hB M' hp' (n + 1) hnot (hF1.trans (hF2.trans (a1.sub (by decide)))) (fun k hk => by rw [a1.i (by decide), g0, if_neg hk]) ⟨fun x hx hx2 => by rw [a1.i (by decide), gx _ _ (by decide) (by decide)]; exact k1' x hx hx2, fun x hx => ?_, a2, a3, fun j hj => ?_⟩ (fun x => ?_) (fun h => absurd h hRs) (fun _ => rfl)
        · rw [a1.i (by decide), a1.i (by decide)]; exact K2 x hx
        · obtain ⟨j', hj', e⟩ := (a4 (hp' j)).mp ⟨j, hj, rfl⟩
          rw [hv2] at e
          by_cases c1 : j' = n
          · rw [if_pos c1] at e; exact Or.inr e.symm
          · rw [if_neg c1] at e; exact Or.inl (by rw [← e]; exact k5 j' (by omega))
        · rw [a4 x]
          constructor
          · rintro ⟨j, hj, e⟩
            rw [hv2] at e
            by_cases c1 : j = n
            · rw [if_pos c1] at e; exact Or.inl e.symm
            · rw [if_neg c1] at e; exact Or.inr ⟨j, by omega, e⟩
          · rintro (e | ⟨j, hj, e⟩)
            · exact ⟨n, by omega, by rw [hself, e]⟩
            · exact ⟨j, by omega, by rw [hv2, if_neg (by omega)]; exact e⟩
  rw [f_X12_reaches, wp_ck_t (GKk102 hG), MRf56 hR, wp_ck_t (GKk139 hG), GKl139 hG, J_toInt (by omega) (by omega), wp_ck_t (by omega), J_clamp (by omega) (by omega), Int.toNat_natCast]
  by_cases c : Rs s
  · obtain ⟨a1, a2, a3, a4, a5⟩ := k2 s c
    rw [a3, wp_ite_f (by rw [show (0 : Int32) = J 0 from rfl, J_lt (by omega) (by omega) (by omega) (by omega)]; omega), f_X12_reaches_14, wp_ite_t rfl, wp_ck_t (GKk102 hG), MRf57 hR, wp_ck_t (GKk140 hG), GKl140 hG, J_toInt (by omega) (by omega), wp_ck_t (by omega), J_clamp (by omega) (by omega), Int.toNat_natCast, a2]
    by_cases c2 : dw s < b
    · rw [wp_ite_t (by rw [J_lt (by omega) (by omega) (by omega) (by omega)]; omega), wp_some]
      exact hA c (by unfold kk; omega)
    · rw [wp_ite_f (by rw [J_lt (by omega) (by omega) (by omega) (by omega)]; omega)]
      by_cases c3 : dw s = b
      · rw [wp_ite_t (by rw [c3]), MRf56 hR, wp_ck_t (GKk139 hG), GKl139 hG, wp_ck_t (by omega), a3]
        by_cases c4 : pl < st s
        · rw [wp_ite_t (by rw [J_lt (by omega) (by omega) (by omega) (by omega)]; omega)]
          exact tail 0 (fun h => by have := h.2; unfold kk at this; omega) (Or.inl ⟨rfl, c⟩)
        · rw [wp_ite_f (by rw [J_lt (by omega) (by omega) (by omega) (by omega)]; omega), wp_some]
          exact hA c (by unfold kk; omega)
      · rw [wp_ite_f (by rw [J_eq (by omega) (by omega) (by omega) (by omega)]; omega)]
        exact tail 0 (fun h => by have := h.2; unfold kk at this; omega) (Or.inl ⟨rfl, c⟩)
  · rw [k1 s hs c, wp_ite_t (by decide), f_X12_reaches_14, wp_ite_f (by decide)]
    exact tail 1 (fun h => c h.1) (Or.inr ⟨rfl, c⟩)
end
