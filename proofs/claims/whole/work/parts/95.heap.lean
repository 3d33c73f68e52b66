/-! THE REFERENCE'S HEAP -/
def KM (M : rhM) (Rs : Nat → Prop) (dw st : Nat → Nat) : Prop := ∀ s, Rs s → s < 246960 ∧ M.1 140 s = J (dw s) ∧ M.1 139 s = J (st s) ∧ dw s < 2147483648 ∧ st s < 100000
def kk (dw st : Nat → Nat) (s : Nat) : Nat := dw s * 100000 + st s
/-- the heap as it stands but for one place -/
def HX (M : rhM) (hp : Nat → Nat) (n i : Nat) : Prop := M.1 102 70 = J n ∧ n ≤ 60990 ∧ (∀ j k, j < n → k < n → hp j = hp k → j = k) ∧ ∀ j, j < n → hp j < 246960 ∧ (j ≠ i → M.1 146 j = J (hp j) ∧ M.1 147 (hp j) = J j)
def HM (M : rhM) (hp : Nat → Nat) (n : Nat) : Prop := HX M hp n n
def HP (hp : Nat → Nat) (n : Nat) (k : Nat → Nat) : Prop := ∀ j, 0 < j → j < n → k (hp ((j - 1) / 2)) ≤ k (hp j)
def sw (hp : Nat → Nat) (i c : Nat) : Nat → Nat := uN (uN hp i (hp c)) c (hp i)
section
variable {Γ : rhG} {Rs : Nat → Prop} {dw st : Nat → Nat}
theorem m_bef (hG : GK Γ) {M : rhM} (hR : MR M) (hK : KM M Rs dw st) {a b : Nat} (ha : Rs a) (hb : Rs b) : f_X12_isBefore Γ M 102 (J a) (J b) = some (bi (kk dw st a < kk dw st b)) := by
  obtain ⟨a1, a2, a3, a4, a5⟩ := hK a ha
  obtain ⟨b1, b2, b3, b4, b5⟩ := hK b hb
  unfold kk
  rw [f_X12_isBefore, rhck_t (GKk102 hG), MRf57 hR, rhck_t (GKk140 hG), GKl140 hG, J_toInt (by omega) (by omega), rhck_t (by omega), J_toInt (by omega) (by omega), rhck_t (by omega), J_clamp (by omega) (by omega), J_clamp (by omega) (by omega), Int.toNat_natCast, Int.toNat_natCast, a2, b2]
  by_cases c : dw a = dw b
  · rw [if_pos (by rw [c]), MRf56 hR, rhck_t (GKk139 hG), GKl139 hG, rhck_t (by omega), rhck_t (by omega), a3, b3]
    by_cases c2 : st a < st b
    · rw [if_pos (by rw [J_lt (by omega) (by omega) (by omega) (by omega)]; omega), bi_t (by omega)]
    · rw [if_neg (by rw [J_lt (by omega) (by omega) (by omega) (by omega)]; omega), bi_f (by omega)]
  · rw [if_neg (by rw [J_eq (by omega) (by omega) (by omega) (by omega)]; omega)]
    by_cases c2 : dw a < dw b
    · rw [if_pos (by rw [J_lt (by omega) (by omega) (by omega) (by omega)]; omega), bi_t (by omega)]
    · rw [if_neg (by rw [J_lt (by omega) (by omega) (by omega) (by omega)]; omega), bi_f (by omega)]
theorem m_hput (hG : GK Γ) {M : rhM} (hR : MR M) {i s : Nat} (hi : i < 61000) (hs : s < 246960) (Q : rhM → Prop) (hQ : ∀ M', Fr [146, 147] M M' → (∀ j, M'.1 146 j = if j = i then J s else M.1 146 j) → (∀ j, M'.1 147 j = if j = s then J i else M.1 147 j) → Q M') : wp (f_X12_put Γ M 102 (J i) (J s)) Q := by
  rw [f_X12_put, wp_ck_t (GKk102 hG), MRf67 hR, wp_ck_t (GKk146 hG), GKl146 hG, J_toInt (by omega) (by omega), wp_ck_t (by omega), MRf68 hR, wp_ck_t (GKk147 hG), GKl147 hG, J_toInt (by omega) (by omega), wp_ck_t (by omega), J_clamp (by omega) (by omega), J_clamp (by omega) (by omega), Int.toNat_natCast, Int.toNat_natCast, wp_some]
  refine hQ _ (((Fr.refl _ _).si (by simp) _ _).si (by simp) _ _) (fun j => ?_) (fun j => ?_)
  · rw [si_1, if_neg (by omega), si_1]
    by_cases c : j = i
    · rw [if_pos ⟨rfl, c⟩, if_pos c]
    · rw [if_neg (by omega), if_neg c]
  · rw [si_1]
    by_cases c : j = s
    · rw [if_pos ⟨rfl, c⟩, if_pos c]
    · rw [if_neg (by omega), if_neg c, si_1, if_neg (by omega)]
/-- what stood at c goes to the free place i; c is free -/
theorem HX_put {M M' : rhM} {hp : Nat → Nat} {n i c : Nat} (h : HX M hp n i) (hi : i < n) (hc : c < n) (hic : c ≠ i) (hF : Fr [146, 147] M M') (e1 : ∀ j, M'.1 146 j = if j = i then J (hp c) else M.1 146 j) (e2 : ∀ j, M'.1 147 j = if j = hp c then J i else M.1 147 j) : HX M' (sw hp i c) n c := by
  obtain ⟨h1, h2, h3, h4⟩ := h
  have hv : ∀ j, sw hp i c j = if j = c then hp i else if j = i then hp c else hp j := fun j => by
    unfold sw uN; rfl
  refine ⟨by rw [hF.i (by decide)]; exact h1, h2, fun j k hj hk e => ?_, fun j hj => ?_⟩
  · rw [hv, hv] at e
    by_cases j1 : j = c
    · by_cases k1 : k = c
      · omega
      · by_cases k2 : k = i
        · rw [if_pos j1, if_neg k1, if_pos k2] at e; have := h3 i c hi hc e; omega
        · rw [if_pos j1, if_neg k1, if_neg k2] at e; have := h3 i k hi hk e; omega
    · by_cases j2 : j = i
      · by_cases k1 : k = c
        · rw [if_neg j1, if_pos j2, if_pos k1] at e; have := h3 c i hc hi e; omega
        · by_cases k2 : k = i
          · omega
          · rw [if_neg j1, if_pos j2, if_neg k1, if_neg k2] at e; have := h3 c k hc hk e; omega
      · by_cases k1 : k = c
        · rw [if_neg j1, if_neg j2, if_pos k1] at e; have := h3 j i hj hi e; omega
        · by_cases k2 : k = i
          · rw [if_neg j1, if_neg j2, if_neg k1, if_pos k2] at e; have := h3 j c hj hc e; omega
          · rw [if_neg j1, if_neg j2, if_neg k1, if_neg k2] at e; exact h3 j k hj hk e
  · rw [hv]
    by_cases j1 : j = c
    · rw [if_pos j1]; exact ⟨(h4 i hi).1, fun h => absurd j1 h⟩
    · by_cases j2 : j = i
      · rw [if_neg j1, if_pos j2]
        exact ⟨(h4 c hc).1, fun _ => ⟨by rw [e1, if_pos j2], by rw [e2, if_pos rfl, j2]⟩⟩
      · rw [if_neg j1, if_neg j2]
        have hne : hp j ≠ hp c := fun e => j1 (h3 j c hj hc e)
        exact ⟨(h4 j hj).1, fun _ => ⟨by rw [e1, if_neg j2]; exact ((h4 j hj).2 j2).1, by rw [e2, if_neg hne]; exact ((h4 j hj).2 j2).2⟩⟩
/-- the free place is filled -/
theorem HX_fill {M M' : rhM} {hp : Nat → Nat} {n i : Nat} (h : HX M hp n i) (hi : i < n) (hF : Fr [146, 147] M M') (e1 : ∀ j, M'.1 146 j = if j = i then J (hp i) else M.1 146 j) (e2 : ∀ j, M'.1 147 j = if j = hp i then J i else M.1 147 j) : HM M' hp n := by
  obtain ⟨h1, h2, h3, h4⟩ := h
  refine ⟨by rw [hF.i (by decide)]; exact h1, h2, h3, fun j hj => ⟨(h4 j hj).1, fun _ => ?_⟩⟩
  by_cases c : j = i
  · rw [e1, if_pos c, e2, c, if_pos rfl]; exact ⟨rfl, rfl⟩
  · have hne : hp j ≠ hp i := fun e => c (h3 j i hj hi e)
    rw [e1, if_neg c, e2, if_neg hne]; exact (h4 j hj).2 c
def Same (hp hp' : Nat → Nat) (n : Nat) : Prop := ∀ s, (∃ j, j < n ∧ hp' j = s) ↔ ∃ j, j < n ∧ hp j = s
theorem Same_sw {hp : Nat → Nat} {n i c : Nat} (hi : i < n) (hc : c < n) : Same hp (sw hp i c) n := by
  have hv : ∀ j, sw hp i c j = if j = c then hp i else if j = i then hp c else hp j := fun j => by unfold sw uN; rfl
  intro s
  constructor
  · rintro ⟨j, hj, e⟩
    rw [hv] at e
    by_cases j1 : j = c
    · rw [if_pos j1] at e; exact ⟨i, hi, e⟩
    · by_cases j2 : j = i
      · rw [if_neg j1, if_pos j2] at e; exact ⟨c, hc, e⟩
      · rw [if_neg j1, if_neg j2] at e; exact ⟨j, hj, e⟩
  · rintro ⟨j, hj, e⟩
    by_cases j1 : j = c
    · by_cases j2 : i = c
      · exact ⟨c, hc, by rw [hv, if_pos rfl, j2, ← j1]; exact e⟩
      · exact ⟨i, hi, by rw [hv, if_neg j2, if_pos rfl, ← j1]; exact e⟩
    · by_cases j2 : j = i
      · exact ⟨c, hc, by rw [hv, if_pos rfl, ← j2]; exact e⟩
      · exact ⟨j, hj, by rw [hv, if_neg j1, if_neg j2]; exact e⟩
theorem Same.trans {a b c : Nat → Nat} {n : Nat} (h : Same a b n) (h2 : Same b c n) : Same a c n := fun s => (h2 s).trans (h s)
theorem m_rise7 (hG : GK Γ) (Q : rhM → Prop) : ∀ (i k : Nat) (M : rhM) (hp : Nat → Nat) (n : Nat), MR M → KM M Rs dw st → HX M hp n i → i < n → (∀ j, j < n → Rs (hp j)) → (∀ j, 0 < j → j < n → j ≠ i → kk dw st (hp ((j - 1) / 2)) ≤ kk dw st (hp j)) → (∀ j, 0 < j → j < n → (j - 1) / 2 = i → 0 < i → kk dw st (hp ((i - 1) / 2)) ≤ kk dw st (hp j)) → i < k →
    (∀ M' hp', Fr [146, 147] M M' → HM M' hp' n → HP hp' n (kk dw st) → Same hp hp' n → Q M') →
    wp (f_X12_rise_7 (f_X12_rise_53 Γ) Γ k M 102 (J (hp i)) (J i)) Q := by
  intro i
  induction i using Nat.strongRecOn with
  | _ i ih =>
    intro k M hp n hR hK hX hi hRs h1 h2 hk hQ
    obtain ⟨k, rfl⟩ : ∃ m, k = m + 1 := ⟨k - 1, by omega⟩
    have hn := hX.2.1
    have his := (hX.2.2.2 i hi).1
    have stop : HP hp n (kk dw st) → wp (f_X12_rise_53 Γ M 102 (J (hp i)) (J i)) Q := by
      intro hP
      rw [f_X12_rise_53, wp_ck_t (GKk102 hG), wp_bind]
      refine m_hput hG hR (by omega) his _ (fun M' F1 e1 e2 => ?_)
      rw [wp_some]
      exact hQ M' hp F1 (HX_fill hX hi F1 e1 e2) hP (fun _ => Iff.rfl)
    rw [f_X12_rise_7]
    by_cases c0 : 0 < i
    · have hp2 : (i - 1) / 2 < i := by omega
      have hpn : (i - 1) / 2 < n := by omega
      have hpar := ((hX.2.2.2 _ hpn).2 (by omega)).1
      have hps := (hX.2.2.2 _ hpn).1
      have hbef := m_bef hG hR hK (hRs i hi) (hRs _ hpn)
      have e1 : (J i - 1) / 2 = J (((i - 1) / 2 : Nat) : Int) := by
        rw [show (1 : Int32) = J 1 from rfl, show (2 : Int32) = J ((2 : Nat) : Int) from rfl, J_sub, show (i : Int) - 1 = ((i - 1 : Nat) : Int) by omega, J_dn (by omega) (by omega) (by omega)]
      rw [wp_ite_t (by rw [show (0 : Int32) = J 0 from rfl, J_lt (by omega) (by omega) (by omega) (by omega)]; omega), wp_ck_t (GKk102 hG), MRf67 hR, wp_ck_t (GKk146 hG), GKl146 hG, e1, J_toInt (by omega) (by omega), wp_ck_t (by omega), J_clamp (by omega) (by omega), Int.toNat_natCast, hpar, hbef, wp_bind, wp_some]
      by_cases cb : kk dw st (hp i) < kk dw st (hp ((i - 1) / 2))
      · rw [bi_t cb, wp_ite_f (by decide), wp_bind]
        refine m_hput hG hR (by omega) hps _ (fun M1 F1 f1 f2 => ?_)
        have hX1 := HX_put hX hi hpn (by omega) F1 f1 f2
        have hv : ∀ j, sw hp i ((i - 1) / 2) j = if j = (i - 1) / 2 then hp i else if j = i then hp ((i - 1) / 2) else hp j := fun j => by unfold sw uN; rfl
        have hS := Same_sw (hp := hp) hi hpn
        have hself : sw hp i ((i - 1) / 2) ((i - 1) / 2) = hp i := by rw [hv, if_pos rfl]
        have := ih ((i - 1) / 2) hp2 k M1 (sw hp i ((i - 1) / 2)) n (hR.fr F1) (fun s hs => by rw [F1.i (by decide), F1.i (by decide)]; exact hK s hs) hX1 hpn (fun j hj => by
          obtain ⟨j', hj', e⟩ := (hS (sw hp i ((i - 1) / 2) j)).mp ⟨j, hj, rfl⟩
          rw [← e]; exact hRs j' hj') (fun j j0 jn jne => ?_) (fun j j0 jn jp p0 => ?_) (by omega) (fun M' hp' a1 a2 a3 a4 => hQ M' hp' (F1.trans a1) a2 a3 (hS.trans a4))
        · rw [hself] at this
          exact this
        · rw [hv, hv j, if_neg jne]
          by_cases j1 : j = i
          · rw [if_pos j1, j1, if_pos rfl]; omega
          · rw [if_neg j1]
            by_cases j2 : (j - 1) / 2 = (i - 1) / 2
            · rw [if_pos j2]
              have := h1 j j0 jn j1
              rw [j2] at this; omega
            · rw [if_neg j2]
              by_cases j3 : (j - 1) / 2 = i
              · rw [if_pos j3]; exact h2 j j0 jn j3 c0
              · rw [if_neg j3]; exact h1 j j0 jn j1
        · have hpp : ((i - 1) / 2 - 1) / 2 ≠ (i - 1) / 2 := by omega
          have hpi : ((i - 1) / 2 - 1) / 2 ≠ i := by omega
          have hup := h1 ((i - 1) / 2) p0 hpn (by omega)
          rw [hv, if_neg hpp, if_neg hpi, hv]
          by_cases j1 : j = i
          · rw [if_neg (by omega), if_pos j1]; exact hup
          · rw [if_neg (by omega), if_neg j1]
            have := h1 j j0 jn j1
            rw [jp] at this; omega
      · rw [bi_f cb, wp_ite_t rfl]
        refine stop (fun j j0 jn => ?_)
        by_cases j1 : j = i
        · rw [j1]; omega
        · exact h1 j j0 jn j1
    · rw [wp_ite_f (by rw [show (0 : Int32) = J 0 from rfl, J_lt (by omega) (by omega) (by omega) (by omega)]; omega)]
      exact stop (fun j j0 jn => h1 j j0 jn (by omega))
end
