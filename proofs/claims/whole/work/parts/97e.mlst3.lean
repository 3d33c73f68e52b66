section
variable {Γ : rhG} {b : Nat} {T : Tn} {g lb : Int} {L0 : Ar} {dw st : Nat → Nat} {Z : List Nat} {md : Md}
theorem m_ll11 (hG : GK Γ) (hw : TWf T) (h4 : tR T ≤ 4) (h6 : tH T ≤ 6) (w0 : WA (tR T) (tH T) L0) {w n : Nat} (hn6 : n ≤ 60980) (hBW : BW T L0 (pM md) w n) (Q : rhM → Prop) : ∀ (d k : Nat) (M : rhM) (gg : List Tr) (L : Ar), gg.length + d = n → d + 1 < k → MR M → TM M b T g lb → ST M T L0 dw st Z → ME M md → (∀ s, s ∈ Z → M.1 142 s = bi (GB T (pM md) dw st w n s)) →
    RwR T L0 gg L (dw (stn (tR T) L)) → gg.length = st (stn (tR T) L) → GB T (pM md) dw st w n (stn (tR T) L) → AHD T L0 (pM md) w n gg → M.1 102 66 = J gg.length → Sg (M.1 145) 0 (gg.map cdT).reverse →
    (∀ M' c, Fr [102, 127, 128, 129, 130, 143, 144, 145] M M' → MR M' → (∀ k, k ≠ 66 → M'.1 102 k = M.1 102 k) → Least T L0 (pM md) (w, c) → M'.1 102 66 = J c.length → Sg (M'.1 145) 0 c.reverse → c.length = n → Q M') →
    wp (f_X12_layLightest_11 Γ k M 102 (J (stn (tR T) L)) 1) Q := by
  intro d
  induction d with
  | zero =>
    intro k M gg L hd hk hR hT hST hME hB hg hgl hGB hA h66 h145 hQ
    obtain ⟨k, rfl⟩ : ∃ m, k = m + 1 + 1 := ⟨k - 2, by omega⟩
    have hIJ : IJ T := stn_inj hG hR hT hw h4 h6
    have wL := RwR_WA w0 hg
    have hLZ := (hST.lbl.2 _ _ _ hg).1
    obtain ⟨L1, r2, Le, w2, w1', e1, hr2, hpe, e2, e3⟩ := hGB
    have eL := hIJ L1 L w1' wL e1
    subst eL
    have hr0 : r2 = [] := List.eq_nil_of_length_eq_zero (by omega)
    subst hr0
    obtain ⟨rfl, rfl⟩ := hr2
    rw [f_X12_layLightest_11, wp_ite_f (by decide), wp_ck_t (GKk102 hG), wp_bind]
    refine (m_layState hG hR hT hw wL h4 h6).mono (fun M1 h1 => ?_)
    obtain ⟨F1, A1⟩ := h1
    have R1 := hR.fr F1
    have T1 := hT.fr F1 (by rw [F1.i (by decide)]) (by rw [F1.i (by decide)]) (by rw [F1.i (by decide)]) (by decide)
    have ME1 := hME.fr (M' := M1) (by rw [F1.i (by decide)]) (by rw [F1.i (by decide)]) (by rw [F1.i (by decide)]) (F1.i (by decide))
    rw [m_isEnd hG R1 T1 hw A1 wL ME1, wp_bind, wp_some, bi_t hpe, wp_ite_f (by decide), f_X12_layLightest_36, wp_ite_t (by decide), f_X12_layLightest_46, wp_ite_t rfl, f_X12_layLightest_11, wp_ite_t rfl, wp_some]
    have hgw : RwR T L0 gg Le w := by rw [show w = dw (stn (tR T) Le) by omega]; exact hg
    exact hQ M1 (gg.map cdT) (F1.sub (by decide)) R1 (fun k _ => by rw [F1.i (by decide)]) (AHD_end hBW hgw (by omega) hA hpe) (by rw [F1.i (by decide), h66, List.length_map]) (by rw [F1.i (by decide)]; exact h145) (by rw [List.length_map]; omega)
  | succ d ih =>
    intro k M gg L hd hk hR hT hST hME hB hg hgl hGB hA h66 h145 hQ
    obtain ⟨k, rfl⟩ : ∃ m, k = m + 1 + 1 := ⟨k - 2, by omega⟩
    have hIJ : IJ T := stn_inj hG hR hT hw h4 h6
    have wL := RwR_WA w0 hg
    have hLZ := (hST.lbl.2 _ _ _ hg).1
    have hle := GB_le hGB
    rw [f_X12_layLightest_11, wp_ite_f (by decide), wp_ck_t (GKk102 hG), wp_bind]
    refine (m_layState hG hR hT hw wL h4 h6).mono (fun M1 h1 => ?_)
    obtain ⟨F1, A1⟩ := h1
    have R1 := hR.fr F1
    have T1 := hT.fr F1 (by rw [F1.i (by decide)]) (by rw [F1.i (by decide)]) (by rw [F1.i (by decide)]) (by decide)
    have ME1 := hME.fr (M' := M1) (by rw [F1.i (by decide)]) (by rw [F1.i (by decide)]) (by rw [F1.i (by decide)]) (F1.i (by decide))
    have ST1 := hST.fr (M' := M1) (F1.i (by decide)) (F1.i (by decide)) (by rw [F1.i (by decide)]) (F1.i (by decide))
    rw [m_isEnd hG R1 T1 hw A1 wL ME1, wp_bind, wp_some]
    have hnp : ¬ pM md L := fun hp => by
      have := hBW gg L _ hg hp
      omega
    rw [bi_f hnp, wp_ite_t rfl, wp_bind]
    refine m_nextTight hG hw h4 h6 R1 T1 wL ST1 (fun s hs => by rw [F1.i (by decide)]; exact hB s hs) hLZ _ (fun M2 a pre post F2 A2 hpl ht hpre => ?_) (fun hno M2 F2 => ?_)
    · have ham : a ∈ pulls T L := by rw [hpl]; simp
      have h1 := cd_lt hw wL ham
      have wm := pulls_WA wL ham
      have R2 := R1.fr F2
      have F02 : Fr [127, 128, 129, 130, 143, 144] M M2 := (F1.sub (by decide)).trans F2
      rw [f_X12_layLightest_36, wp_ite_f (by rw [show (0 : Int32) = J 0 from rfl, J_lt (by omega) (by omega) (by omega) (by omega)]; omega), f_X12_layLightest_46, wp_ite_f (by decide), wp_ck_t (GKk102 hG)]
      dsimp only
      have h66' : M2.1 102 66 = J gg.length := by rw [F02.i (by decide)]; exact h66
      have hF3 : Fr [102, 145] M2 (rhsi (rhsi M2 145 gg.length (J (cdT a))) 102 66 (J ((gg.length + 1 : Nat) : Int))) := ((Fr.refl _ _).si (by simp) _ _).si (by simp) _ _
      have e3 : ∀ j, (rhsi (rhsi M2 145 gg.length (J (cdT a))) 102 66 (J ((gg.length + 1 : Nat) : Int))).1 102 j = if j = 66 then J ((gg.length + 1 : Nat) : Int) else M2.1 102 j := fun j => by
        rw [si_1]
        by_cases c : j = 66
        · rw [if_pos ⟨rfl, c⟩, if_pos c]
        · rw [if_neg (by omega), if_neg c, si_1, if_neg (by omega)]
      have e145 : ∀ j, (rhsi (rhsi M2 145 gg.length (J (cdT a))) 102 66 (J ((gg.length + 1 : Nat) : Int))).1 145 j = if j = gg.length then J (cdT a) else M.1 145 j := fun j => by
        rw [si_1, if_neg (by omega), si_1]
        by_cases c : j = gg.length
        · rw [if_pos ⟨rfl, c⟩, if_pos c]
        · rw [if_neg (by omega), if_neg c, F02.i (by decide)]
      have g66 : (rhsi M2 145 gg.length (J (cdT a))).1 102 66 = J gg.length := by rw [si_1, if_neg (by omega)]; exact h66'
      rw [MRf65 R2, wp_ck_t (GKk145 hG), GKl145 hG, h66', J_toInt (by omega) (by omega), wp_ck_t (by omega), J_clamp (by omega) (by omega), Int.toNat_natCast, g66, show (1 : Int32) = J 1 from rfl, J_add, J_suc]
      generalize rhsi (rhsi M2 145 gg.length (J (cdT a))) 102 66 (J ((gg.length + 1 : Nat) : Int)) = M3 at *
      have R3 := R2.fr hF3
      have F03 : Fr [102, 127, 128, 129, 130, 143, 144, 145] M M3 := (F02.sub (by decide)).trans (hF3.sub (by decide))
      have h102 : ∀ j, j ≠ 66 → M3.1 102 j = M.1 102 j := fun j hj => by rw [e3, if_neg hj, F02.i (by decide)]
      have T3 := hT.fr F03 (h102 34 (by decide)) (h102 44 (by decide)) (h102 45 (by decide)) (by decide)
      have A3 := A2.fr hF3 (by decide) (by decide)
      rw [m_stateOf hG R3 T3 hw A3 wm, wp_bind, wp_some]
      have hg' : RwR T L0 (a :: gg) (mvA L a) (dw (stn (tR T) (mvA L a))) := ⟨L, _, hg, ham, rfl, ht.2.1⟩
      refine ih (k + 1) M3 (a :: gg) (mvA L a) (by rw [List.length_cons]; omega) (by omega) R3 T3 (hST.fr (F03.i (by decide)) (F03.i (by decide)) (h102 71 (by decide)) (F03.i (by decide))) (hME.fr (h102 61 (by decide)) (h102 53 (by decide)) (h102 62 (by decide)) (F03.i (by decide))) (fun s hs => by rw [F03.i (by decide)]; exact hB s hs) hg' (by rw [List.length_cons, ht.2.2, hgl]) ht.1 (AHD_step hw w0 hST.lbl hIJ hBW hg hgl hA hpl hpre) (by rw [e3, if_pos rfl]; rfl) ?_ (fun M' c y1 y2 y3 y4 y5 y6 y7 => hQ M' c (F03.trans y1) y2 (fun j hj => by rw [y3 j hj, h102 j hj]) y4 y5 y6 y7)
      rw [List.map_cons, List.reverse_cons, Sg_app]
      refine ⟨Sg_cong _ 0 (fun i _ hi => ?_) h145, ?_, trivial⟩
      · rw [List.length_reverse, List.length_map] at hi
        rw [e145, if_neg (by omega)]
      · rw [e145, if_pos (by rw [List.length_reverse, List.length_map]; omega)]
    · rcases (GB_iff hST.lbl hIJ hBW wL hLZ).mp hGB with h | ⟨a, ha, ht⟩
      · exact absurd h.2.2 hnp
      · exact absurd ht (hno a ha)
theorem m_isMany (hG : GK Γ) {M : rhM} (hR : MR M) (hT : TM M b T g lb) (hw : TWf T) : f_X12_isMany Γ M 102 = some (bi (6 < tH T ∨ 4 < tR T)) := by
  have w1 := hw.1
  have w2 := hw.2.1
  rw [f_X12_isMany, rhck_t (GKk102 hG), m_houseMany hG hR hT, Option.bind_some]
  by_cases c : 6 < tH T
  · rw [if_pos (by rw [show (6 : Int32) = J 6 from rfl, J_lt (by omega) (by omega) (by omega) (by omega)]; omega), bi_t (Or.inl c)]
  · rw [if_neg (by rw [show (6 : Int32) = J 6 from rfl, J_lt (by omega) (by omega) (by omega) (by omega)]; omega), m_railMany hG hR hT, Option.bind_some]
    by_cases c2 : 4 < tR T
    · rw [if_pos (by rw [show (4 : Int32) = J 4 from rfl, J_lt (by omega) (by omega) (by omega) (by omega)]; omega), bi_t (Or.inr c2)]
    · rw [if_neg (by rw [show (4 : Int32) = J 4 from rfl, J_lt (by omega) (by omega) (by omega) (by omega)]; omega), bi_f (by omega)]
end
