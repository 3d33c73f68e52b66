section
variable {Γ : rhG} {b : Nat} {T : Tn} {g lb : Int} {L0 : Ar} {dw st : Nat → Nat} {Z : List Nat} {md : Md}
theorem ST.fr {M M' : rhM} (h : ST M T L0 dw st Z) (h1 : M'.1 139 = M.1 139) (h2 : M'.1 140 = M.1 140) (h3 : M'.1 102 71 = M.1 102 71) (h4 : M'.1 148 = M.1 148) : ST M' T L0 dw st Z := by
  obtain ⟨a1, a2, a3, a4⟩ := h
  exact ⟨fun s hs => by rw [h1, h2]; exact a1 s hs, by rw [h3]; exact a2, by rw [h4]; exact a3, a4⟩
theorem ST.lbl {M : rhM} (h : ST M T L0 dw st Z) : LBL T L0 dw st Z := ⟨h.2.2.2.2.2.2.1, h.2.2.2.2.2.2.2.2⟩
theorem ST.at {M : rhM} (h : ST M T L0 dw st Z) {p : Nat} (hp : p < Z.length) : ∃ L, WA (tR T) (tH T) L ∧ Z[p]? = some (stn (tR T) L) ∧ M.1 148 p = J (stn (tR T) L) ∧ stn (tR T) L ∈ Z := by
  have hz := Sg_get h.2.2.1 hp
  rw [Nat.zero_add] at hz
  have hm := gd_mem 0 hp
  obtain ⟨L, r, w1, e, -, -⟩ := h.2.2.2.2.2.2.1 _ hm
  refine ⟨L, w1, ?_, by rw [hz, e], e ▸ hm⟩
  rw [← e, List.getD_eq_getElem?_getD, List.getElem?_eq_getElem hp]; rfl
/-- the first end among the settled -/
theorem m_ls28 (hG : GK Γ) (hw : TWf T) (h4 : tR T ≤ 4) (h6 : tH T ≤ 6) (K : rhM → Nat → Int32 → Option (Int32 × rhM)) (Qp : Int32 × rhM → Prop) : ∀ (d n : Nat) (M : rhM) (i : Nat), i + d = Z.length → d + 1 < n → MR M → TM M b T g lb → ST M T L0 dw st Z → ME M md → (∀ (j : Nat) (L : Ar), j < i → Z[j]? = some (stn (tR T) L) → WA (tR T) (tH T) L → ¬ pM md L) →
    ((∀ (j : Nat) (L : Ar), Z[j]? = some (stn (tR T) L) → WA (tR T) (tH T) L → ¬ pM md L) → ∀ M', Fr [128, 129, 130] M M' → wp (K M' 102 (J (-1))) Qp) →
    (∀ M' (j : Nat) (L : Ar), Fr [128, 129, 130] M M' → WA (tR T) (tH T) L → Z[j]? = some (stn (tR T) L) → pM md L → (∀ (j' : Nat) (L' : Ar), j' < j → Z[j']? = some (stn (tR T) L') → WA (tR T) (tH T) L' → ¬ pM md L') → wp (K M' 102 (J (stn (tR T) L))) Qp) →
    wp (f_X12_least_28 K Γ n M 102 (-1) (J i)) Qp := by
  have w1 := hw.1
  have w2 := hw.2.1
  intro d
  induction d with
  | zero =>
    intro n M i hi hn hR hT hST hME hno hN hM
    obtain ⟨n, rfl⟩ : ∃ k, n = k + 1 := ⟨n - 1, by omega⟩
    have hZl := hST.2.2.2.2.1
    rw [f_X12_least_28, wp_ck_t (GKk102 hG), hST.2.1, wp_ite_f (by rw [J_lt (by omega) (by omega) (by omega) (by omega)]; omega)]
    exact hN (fun j L hj => hno j L (by have := (List.getElem?_eq_some_iff.mp hj).1; omega) hj) M (Fr.refl _ _)
  | succ d ih =>
    intro n M i hi hn hR hT hST hME hno hN hM
    obtain ⟨n, rfl⟩ : ∃ k, n = k + 1 := ⟨n - 1, by omega⟩
    have hZl := hST.2.2.2.2.1
    obtain ⟨L, wL, hzi, h148, -⟩ := hST.at (p := i) (by omega)
    have hsl := stn_lt wL h6
    rw [f_X12_least_28, wp_ck_t (GKk102 hG), hST.2.1, wp_ite_t (by rw [J_lt (by omega) (by omega) (by omega) (by omega)]; omega), wp_ite_t (by decide), MRf69 hR, wp_ck_t (GKk148 hG), GKl148 hG, J_toInt (by omega) (by omega), wp_ck_t (by omega), J_clamp (by omega) (by omega), Int.toNat_natCast, h148, wp_bind]
    refine (m_layState hG hR hT hw wL h4 h6).mono (fun M1 h1 => ?_)
    obtain ⟨F1, A1⟩ := h1
    have R1 := hR.fr F1
    have T1 := hT.fr F1 (by rw [F1.i (by decide)]) (by rw [F1.i (by decide)]) (by rw [F1.i (by decide)]) (by decide)
    have ME1 := hME.fr (M' := M1) (by rw [F1.i (by decide)]) (by rw [F1.i (by decide)]) (by rw [F1.i (by decide)]) (F1.i (by decide))
    have ST1 := hST.fr (M' := M1) (F1.i (by decide)) (F1.i (by decide)) (by rw [F1.i (by decide)]) (F1.i (by decide))
    rw [m_isEnd hG R1 T1 hw A1 wL ME1, wp_bind, wp_some]
    by_cases hp : pM md L
    · have h148' : M1.1 148 i = J (stn (tR T) L) := by rw [F1.i (by decide)]; exact h148
      rw [bi_t hp, wp_ite_f (by decide), MRf69 R1, wp_ck_t (GKk148 hG), GKl148 hG, wp_ck_t (by omega)]
      dsimp only
      rw [h148', f_X12_least_64]
      rw [show (1 : Int32) = J 1 from rfl, J_add, J_suc]
      obtain ⟨n, rfl⟩ : ∃ k, n = k + 1 := ⟨n - 1, by omega⟩
      rw [f_X12_least_28, wp_ck_t (GKk102 hG), ST1.2.1]
      have fin : wp (K M1 102 (J (stn (tR T) L))) Qp := hM M1 i L F1 wL hzi hp hno
      by_cases c : i + 1 < Z.length
      · rw [wp_ite_t (by rw [J_lt (by omega) (by omega) (by omega) (by omega)]; omega), wp_ite_f (by rw [show (0 : Int32) = J 0 from rfl, J_lt (by omega) (by omega) (by omega) (by omega)]; omega)]
        exact fin
      · rw [wp_ite_f (by rw [J_lt (by omega) (by omega) (by omega) (by omega)]; omega)]
        exact fin
    · rw [bi_f hp, wp_ite_t rfl, f_X12_least_64]
      rw [show (1 : Int32) = J 1 from rfl, J_add, J_suc, show (-(J 1)) = (-1 : Int32) from rfl]
      refine ih n M1 (i + 1) (by omega) (by omega) R1 T1 ST1 ME1 (fun j L' hj hz wL' => ?_) (fun hx M' y => hN hx M' (F1.trans y)) (fun M' j L' y => hM M' j L' (F1.trans y))
      by_cases c : j = i
      · subst c
        rw [hzi] at hz
        have : L = L' := stn_inj hG hR hT hw h4 h6 L L' wL wL' (Option.some.inj hz)
        rw [← this]; exact hp
      · exact hno j L' (by omega) hz wL'
/-- no settled state is marked -/
theorem m_ls78 (hG : GK Γ) (h6 : tH T ≤ 6) (K : rhM → Nat → Int32 → Option (Int32 × rhM)) (Qp : Int32 × rhM → Prop) {v1 : Int32} : ∀ (d n : Nat) (M : rhM) (i : Nat), i + d = Z.length → d < n → MR M → ST M T L0 dw st Z → (∀ (j s : Nat), j < i → Z[j]? = some s → M.1 142 s = 0) →
    (∀ M', Fr [142] M M' → (∀ s, s ∈ Z → M'.1 142 s = 0) → wp (K M' 102 v1) Qp) →
    wp (f_X12_least_78 K Γ n M 102 v1 (J i)) Qp := by
  intro d
  induction d with
  | zero =>
    intro n M i hi hn hR hST h0 hK
    obtain ⟨n, rfl⟩ : ∃ k, n = k + 1 := ⟨n - 1, by omega⟩
    have hZl := hST.2.2.2.2.1
    rw [f_X12_least_78, wp_ck_t (GKk102 hG), hST.2.1, wp_ite_f (by rw [J_lt (by omega) (by omega) (by omega) (by omega)]; omega)]
    refine hK M (Fr.refl _ _) (fun s hs => ?_)
    obtain ⟨j, hj, e⟩ := List.getElem_of_mem hs
    exact h0 j s (by omega) (by rw [List.getElem?_eq_getElem hj, e])
  | succ d ih =>
    intro n M i hi hn hR hST h0 hK
    obtain ⟨n, rfl⟩ : ∃ k, n = k + 1 := ⟨n - 1, by omega⟩
    have hZl := hST.2.2.2.2.1
    obtain ⟨L, wL, hzi, h148, -⟩ := hST.at (p := i) (by omega)
    have hsl := stn_lt wL h6
    rw [f_X12_least_78, wp_ck_t (GKk102 hG), hST.2.1, wp_ite_t (by rw [J_lt (by omega) (by omega) (by omega) (by omega)]; omega), MRf69 hR, wp_ck_t (GKk148 hG), GKl148 hG, J_toInt (by omega) (by omega), wp_ck_t (by omega), MRf59 hR, wp_ck_t (GKk142 hG), GKl142 hG, J_clamp (by omega) (by omega), Int.toNat_natCast, h148, J_toInt (by omega) (by omega), wp_ck_t (by omega)]
    dsimp only
    rw [J_clamp (by omega) (by omega), Int.toNat_natCast, show vp_nar .boolean 0 = (0 : Int32) from by decide, show (1 : Int32) = J 1 from rfl, J_add, J_suc]
    have hF : Fr [142] M (rhsi M 142 (stn (tR T) L) 0) := (Fr.refl _ _).si (by simp) _ _
    refine ih n _ (i + 1) (by omega) (by omega) (hR.fr hF) (hST.fr (hF.i (by decide)) (hF.i (by decide)) (by rw [hF.i (by decide)]) (hF.i (by decide))) (fun j s hj hz => ?_) (fun M' y1 y2 => hK M' (hF.trans y1) y2)
    rw [si_1]
    by_cases c : s = stn (tR T) L
    · rw [if_pos ⟨rfl, c⟩]
    · rw [if_neg (by intro h; exact c h.2)]
      by_cases c2 : j = i
      · subst c2; rw [hzi] at hz; cases hz; exact absurd rfl c
      · exact h0 j s (by omega) hz
end
