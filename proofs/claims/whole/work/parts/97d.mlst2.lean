theorem kk_lt {dw st : Nat → Nat} {x y : Nat} (hx : st x < 100000) (hy : st y < 100000) : kk dw st x < kk dw st y ↔ dw x < dw y ∨ (dw x = dw y ∧ st x < st y) := by
  unfold kk
  constructor
  · intro h; omega
  · intro h; omega
section
variable {Γ : rhG} {b : Nat} {T : Tn} {g lb : Int} {L0 : Ar} {dw st : Nat → Nat} {Z : List Nat} {md : Md}
/-- marking from the last settled to the first -/
theorem m_ls111 (hG : GK Γ) (hw : TWf T) (h4 : tR T ≤ 4) (h6 : tH T ≤ 6) {e : Nat} (he : e ∈ Z) (hBW : BW T L0 (pM md) (dw e) (st e)) (K : rhM → Nat → Int32 → Option (Int32 × rhM)) (Qp : Int32 × rhM → Prop) : ∀ (c n : Nat) (M : rhM), c ≤ Z.length → c < n → MR M → TM M b T g lb → ST M T L0 dw st Z → ME M md → (∀ s, s ∈ Z → M.1 142 s = bi (GB T (pM md) dw st (dw e) (st e) s ∧ ∃ q : Nat, c ≤ q ∧ Z[q]? = some s)) →
    (∀ M', Fr [127, 128, 129, 130, 142, 143, 144] M M' → (∀ s, s ∈ Z → M'.1 142 s = bi (GB T (pM md) dw st (dw e) (st e) s)) → wp (K M' 102 (J e)) Qp) →
    wp (f_X12_least_111 K Γ n M 102 (J e) (J ((c : Int) - 1))) Qp := by
  intro c
  induction c with
  | zero =>
    intro n M hc hn hR hT hST hME hB hK
    obtain ⟨n, rfl⟩ : ∃ k, n = k + 1 := ⟨n - 1, by omega⟩
    rw [f_X12_least_111, wp_ite_t (by rw [show (0 : Int32) = J 0 from rfl, J_lt (by omega) (by omega) (by omega) (by omega)]; omega)]
    refine hK M (Fr.refl _ _) (fun s hs => ?_)
    rw [hB s hs]
    obtain ⟨q, hq, e1⟩ := List.getElem_of_mem hs
    by_cases cc : GB T (pM md) dw st (dw e) (st e) s
    · rw [bi_t cc, bi_t ⟨cc, q, Nat.zero_le _, by rw [List.getElem?_eq_getElem hq, e1]⟩]
    · rw [bi_f cc, bi_f (fun h => cc h.1)]
  | succ c ih =>
    intro n M hc hn hR hT hST hME hB hK
    obtain ⟨n, rfl⟩ : ∃ k, n = k + 1 := ⟨n - 1, by omega⟩
    have hIJ : IJ T := stn_inj hG hR hT hw h4 h6
    have hZl := hST.2.2.2.2.1
    have hZn := hST.2.2.2.1
    have hKM := hST.1
    have hsrt := hST.2.2.2.2.2.1
    obtain ⟨L, wL, hzi, h148, hLZ⟩ := hST.at (p := c) (by omega)
    have hsl := stn_lt wL h6
    have hiff := GB_iff hST.lbl hIJ hBW wL hLZ
    have hsuc := fun a (ha : a ∈ pulls T L) => hST.succ hIJ wL hLZ ha
    have hwt := fun a (ha : a ∈ pulls T L) => wt_rng hw h6 wL ha
    have hcd := fun a (ha : a ∈ pulls T L) => cd_lt hw wL ha
    have htg : ∀ a, tgt T dw st (fun s => GB T (pM md) dw st (dw e) (st e) s ∧ ∃ q : Nat, c + 1 ≤ q ∧ Z[q]? = some s) L a → tgt T dw st (GB T (pM md) dw st (dw e) (st e)) L a := fun a h => ⟨h.1.1, h.2⟩
    have hend : pM md L → dw e < dw (stn (tR T) L) ∨ (dw e = dw (stn (tR T) L) ∧ st e ≤ st (stn (tR T) L)) := fun hp => by
      obtain ⟨r, hr, hrl⟩ := hST.lbl.row hIJ wL hLZ
      have := hBW r L _ hr hp
      rw [hrl] at this; exact this
    have nt := fun (M1 : rhM) (R1 : MR M1) (T1 : TM M1 b T g lb) (ST1 : ST M1 T L0 dw st Z) (hB1 : ∀ s, s ∈ Z → M1.1 142 s = bi (GB T (pM md) dw st (dw e) (st e) s ∧ ∃ q : Nat, c + 1 ≤ q ∧ Z[q]? = some s)) (Q : Int32 × rhM → Prop) => m_nextTight hG hw h4 h6 R1 T1 wL ST1 hB1 hLZ Q
    have htg2 : ∀ a, a ∈ pulls T L → tgt T dw st (GB T (pM md) dw st (dw e) (st e)) L a → tgt T dw st (fun s => GB T (pM md) dw st (dw e) (st e) s ∧ ∃ q : Nat, c + 1 ≤ q ∧ Z[q]? = some s) L a := fun a ha h => by
      obtain ⟨q, hq, e1⟩ := List.getElem_of_mem (hsuc a ha)
      have hzq : Z[q]? = some (stn (tR T) (mvA L a)) := by rw [List.getElem?_eq_getElem hq, e1]
      refine ⟨⟨h.1, q, ?_, hzq⟩, h.2⟩
      by_cases cq : c + 1 ≤ q
      · exact cq
      · exfalso
        have h1 := hsrt q c _ _ (by omega) hzq hzi
        have h2 := hwt a ha
        have h3 := h.2.1
        have hz1 := (hKM _ (hsuc a ha)).2.2.2.2
        have hz2 := (hKM _ hLZ).2.2.2.2
        have h4' := (kk_lt (dw := dw) (st := st) hz2 hz1).mpr (Or.inl (by omega))
        exact absurd h1 (by exact Nat.not_le.mpr h4')
    obtain ⟨s, hs⟩ : ∃ s, stn (tR T) L = s := ⟨_, rfl⟩
    unfold tgt at htg2 htg nt
    rw [hs] at hsl h148 hLZ hiff hend nt hzi htg2 htg
    have b1 := (hKM s hLZ).2.2.2.2
    have b2 := (hKM e he).2.2.2.2
    have hel := (hKM e he).1
    have hbef := m_bef hG hR hKM he hLZ
    rw [f_X12_least_111, show ((c + 1 : Nat) : Int) - 1 = (c : Int) by omega, wp_ite_f (by rw [show (0 : Int32) = J 0 from rfl, J_lt (by omega) (by omega) (by omega) (by omega)]; omega), wp_ck_t (GKk102 hG), MRf69 hR, wp_ck_t (GKk148 hG), GKl148 hG, J_toInt (by omega) (by omega), wp_ck_t (by omega)]
    dsimp only
    rw [J_clamp (by omega) (by omega), Int.toNat_natCast, h148, hbef, wp_bind, wp_some]
    -- what every way on asks
    have goal : ∀ M2, MR M2 → Fr [127, 128, 129, 130, 142, 143, 144] M M2 → (∀ s', s' ∈ Z → M2.1 142 s' = bi (GB T (pM md) dw st (dw e) (st e) s' ∧ ∃ q : Nat, c ≤ q ∧ Z[q]? = some s')) → wp (f_X12_least_174 (f_X12_least_111 K Γ n) Γ M2 102 (J e) (J c)) Qp := by
      intro M2 R2 F2 hB2
      rw [f_X12_least_174, show (-1 : Int32) = J (-1) from rfl, J_add, show (c : Int) + -1 = (c : Int) - 1 by omega]
      exact ih n M2 (by omega) (by omega) R2 (hT.fr F2 (by rw [F2.i (by decide)]) (by rw [F2.i (by decide)]) (by rw [F2.i (by decide)]) (by decide)) (hST.fr (F2.i (by decide)) (F2.i (by decide)) (by rw [F2.i (by decide)]) (F2.i (by decide))) (hME.fr (by rw [F2.i (by decide)]) (by rw [F2.i (by decide)]) (by rw [F2.i (by decide)]) (F2.i (by decide))) hB2 (fun M' x y => hK M' (F2.trans x) y)
    have hoth : ∀ s', s' ∈ Z → s' ≠ s → ((∃ q : Nat, c ≤ q ∧ Z[q]? = some s') ↔ ∃ q : Nat, c + 1 ≤ q ∧ Z[q]? = some s') := fun s' _ hne => by
      constructor
      · rintro ⟨q, hq, e1⟩
        by_cases cq : q = c
        · subst cq; rw [hzi] at e1; exact absurd (Option.some.inj e1).symm hne
        · exact ⟨q, by omega, e1⟩
      · rintro ⟨q, hq, e1⟩; exact ⟨q, by omega, e1⟩
    have hsome : ∀ s', s' ∈ Z → s' ≠ s → ∀ M2 : rhM, M2.1 142 s' = M.1 142 s' → M2.1 142 s' = bi (GB T (pM md) dw st (dw e) (st e) s' ∧ ∃ q : Nat, c ≤ q ∧ Z[q]? = some s') := fun s' hs' hne M2 e2 => by
      rw [e2, hB s' hs']
      congr 1
      rw [hoth s' hs' hne]
    have store : ∀ (M2 : rhM) (v : Int32), Fr [127, 128, 129, 130, 143, 144] M M2 → (v = 0 ∨ v = 1) → v = bi (GB T (pM md) dw st (dw e) (st e) s) → wp (f_X12_least_173 (f_X12_least_174 (f_X12_least_111 K Γ n) Γ) Γ M2 102 (J e) (J c) 142 (J s) v) Qp := by
      intro M2 v F2 hv hvv
      rw [f_X12_least_173, wp_ck_t (GKk142 hG), GKl142 hG, J_toInt (by omega) (by omega), wp_ck_t (by omega)]
      dsimp only
      rw [J_clamp (by omega) (by omega), Int.toNat_natCast]
      have hvn : vp_nar .boolean v = v := by
        rcases hv with h | h <;> (rw [h]; decide)
      rw [hvn]
      have hF : Fr [142] M2 (rhsi M2 142 s v) := (Fr.refl _ _).si (by simp) _ _
      refine goal _ ((hR.fr F2).fr hF) ((F2.sub (by decide)).trans (hF.sub (by decide))) (fun s' hs' => ?_)
      by_cases ce : s' = s
      · rw [ce, si_1, if_pos ⟨rfl, rfl⟩, hvv]
        congr 1
        exact propext ⟨fun h => ⟨h, c, Nat.le_refl _, hzi⟩, fun h => h.1⟩
      · exact hsome s' hs' ce _ (by rw [si_1, if_neg (fun h => ce h.2), F2.i (by decide)])
    by_cases c1 : kk dw st e < kk dw st s
    · rw [bi_t c1, wp_ite_f (by decide)]
      refine goal M hR (Fr.refl _ _) (fun s' hs' => ?_)
      by_cases ce : s' = s
      · have hng : ¬ GB T (pM md) dw st (dw e) (st e) s := fun h => by
          have := GB_le h
          have h2 := (kk_lt b2 b1).mp c1
          omega
        rw [ce, hB s hLZ, bi_f (fun h => hng h.1), bi_f (fun h => hng h.1)]
      · exact hsome s' hs' ce M rfl
    · rw [bi_f c1, wp_ite_t rfl, wp_bind]
      rw [← hs]
      refine (m_layState hG hR hT hw wL h4 h6).mono (fun M1 h1 => ?_)
      rw [hs]
      obtain ⟨F1, A1⟩ := h1
      have R1 := hR.fr F1
      have T1 := hT.fr F1 (by rw [F1.i (by decide)]) (by rw [F1.i (by decide)]) (by rw [F1.i (by decide)]) (by decide)
      have ME1 := hME.fr (M' := M1) (by rw [F1.i (by decide)]) (by rw [F1.i (by decide)]) (by rw [F1.i (by decide)]) (F1.i (by decide))
      have ST1 := hST.fr (M' := M1) (F1.i (by decide)) (F1.i (by decide)) (by rw [F1.i (by decide)]) (F1.i (by decide))
      have hB1 : ∀ s, s ∈ Z → M1.1 142 s = bi (GB T (pM md) dw st (dw e) (st e) s ∧ ∃ q : Nat, c + 1 ≤ q ∧ Z[q]? = some s) := fun s hs => by rw [F1.i (by decide)]; exact hB s hs
      rw [m_bef hG R1 ST1.1 hLZ he, wp_bind, wp_some, MRf59 R1]
      have n160 : ((pM md L) → kk dw st s < kk dw st e) → wp (f_X12_least_160 (f_X12_least_168 (f_X12_least_173 (f_X12_least_174 (f_X12_least_111 K Γ n) Γ) Γ) Γ) (f_X12_least_173 (f_X12_least_174 (f_X12_least_111 K Γ n) Γ) Γ) Γ M1 102 (J e) (J c) (J s) 142 (J s)) Qp := by
        intro hpk
        have hnp : ¬ pM md L := fun hp => by
          have h1 := hend hp
          have h2 := (kk_lt b1 b2).mp (hpk hp)
          omega
        rw [f_X12_least_160, wp_ck_t (GKk102 hG), wp_bind]
        refine nt M1 R1 T1 ST1 hB1 _ (fun M2 a pre post F2 A2 hpl ht hpre => ?_) (fun hno M2 F2 => ?_)
        · have ham : a ∈ pulls T L := by rw [hpl]; simp
          have h1 := hcd a ham
          rw [wp_ite_f (by rw [show (0 : Int32) = J 0 from rfl, J_lt (by omega) (by omega) (by omega) (by omega)]; omega), f_X12_least_168]
          refine store M2 1 ((F1.sub (by decide)).trans F2) (Or.inr rfl) ?_
          rw [bi_t]
          exact hiff.mpr (Or.inr ⟨a, ham, by unfold tgt; rw [hs]; exact htg a ht⟩)
        · rw [wp_ite_t (show ((-1 : Int32)) < 0 by decide)]
          refine store M2 0 ((F1.sub (by decide)).trans F2) (Or.inl rfl) ?_
          rw [bi_f]
          intro h
          rcases hiff.mp h with h | ⟨a, ha, ht⟩
          · exact hnp h.2.2
          · unfold tgt at ht
            rw [hs] at ht
            exact hno a ha (htg2 a ha ht)
      by_cases c2 : kk dw st s < kk dw st e
      · rw [bi_t c2, wp_ite_f (by decide)]
        exact n160 (fun _ => c2)
      · rw [bi_f c2, wp_ite_t rfl, m_isEnd hG R1 T1 hw A1 wL ME1, wp_bind, wp_some]
        by_cases hp : pM md L
        · rw [bi_t hp, wp_ite_f (by decide), f_X12_least_168]
          refine store M1 1 (F1.sub (by decide)) (Or.inr rfl) ?_
          rw [bi_t]
          have h1 : ¬ (dw e < dw s ∨ (dw e = dw s ∧ st e < st s)) := fun h => c1 ((kk_lt b2 b1).mpr h)
          have h2 := hend hp
          exact hiff.mpr (Or.inl ⟨by omega, by omega, hp⟩)
        · rw [bi_f hp, wp_ite_t rfl]
          exact n160 (fun h => absurd h hp)
end
