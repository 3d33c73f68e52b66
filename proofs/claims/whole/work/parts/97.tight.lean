section
variable {Γ : rhG} {b : Nat} {T : Tn} {g lb : Int} {L0 : Ar} {dw st : Nat → Nat} {Z : List Nat} {B : Nat → Prop}
def tgt (T : Tn) (dw st : Nat → Nat) (B : Nat → Prop) (L : Ar) (a : Tr) : Prop := B (stn (tR T) (mvA L a)) ∧ dw (stn (tR T) (mvA L a)) = dw (stn (tR T) L) + wtA T L a ∧ st (stn (tR T) (mvA L a)) = st (stn (tR T) L) + 1
theorem ST.succ {M : rhM} (h : ST M T L0 dw st Z) (hIJ : IJ T) {L : Ar} (wL : WA (tR T) (tH T) L) (hL : stn (tR T) L ∈ Z) {a : Tr} (ha : a ∈ pulls T L) : stn (tR T) (mvA L a) ∈ Z := by
  obtain ⟨h1, h2, h3, h4, h5, h6, h7, h8, h9⟩ := h
  obtain ⟨L1, r, w1, e, hr, -⟩ := h7 _ hL
  have := hIJ L L1 wL w1 e
  subst this
  exact (h9 (a :: r) (mvA L a) _ ⟨L, _, hr, ha, rfl, rfl⟩).1
def NT0 (Γ : rhG) (M0 : rhM) (b : Nat) (T : Tn) (g lb : Int) (L0 : Ar) (dw st : Nat → Nat) (Z : List Nat) (B : Nat → Prop) (L : Ar) : Prop := MR M0 ∧ TM M0 b T g lb ∧ RA M0 143 0 144 0 L ∧ ST M0 T L0 dw st Z ∧ (∀ s, s ∈ Z → M0.1 142 s = bi (B s)) ∧ stn (tR T) L ∈ Z
theorem m_nt51 (hG : GK Γ) (hw : TWf T) (h4 : tR T ≤ 4) (h6 : tH T ≤ 6) {M0 : rhM} {L : Ar} (wL : WA (tR T) (tH T) L) (h0 : NT0 Γ M0 b T g lb L0 dw st Z B L) {f m : Nat} (hf : f < tR T) (hm1 : 1 ≤ m) (hm : m ≤ (rl L f).length) (kE : rhM → Int32 → Int32 → Int32 → Option (Int32 × rhM)) (K : rhM → Nat → Int32 → Int32 → Int32 → Option (Int32 × rhM)) (Qp : Int32 × rhM → Prop) : ∀ (d n : Nat) (M : rhM) (k : Nat), Fr [127, 128, 129, 130] M0 M → k + d = tR T → d < n →
    (∀ M' a pre post, Fr [127, 128, 129, 130] M0 M' → RA M' 128 0 129 0 (mvA L a) → pulT T L f m k d = pre ++ a :: post → tgt T dw st B L a → (∀ x, x ∈ pre → ¬ tgt T dw st B L x) → wp (kE M' (J a.1) (J a.2.1) (J a.2.2)) Qp) →
    ((∀ x, x ∈ pulT T L f m k d → ¬ tgt T dw st B L x) → ∀ M', Fr [127, 128, 129, 130] M0 M' → wp (K M' 102 (J (stn (tR T) L)) (J f) (J m)) Qp) →
    wp (f_X12_nextTight_51 kE K Γ n M 102 (J (stn (tR T) L)) (J f) (J m) (J k)) Qp := by
  have w1 := hw.1
  have w2 := hw.2.1
  have hlen := wL.len
  have hrl := wL.rl_len hf
  obtain ⟨hR0, hT0, hAt0, hST, hB, hLZ⟩ := h0
  have hIJ : IJ T := stn_inj hG hR0 hT0 hw h4 h6
  have hsl := stn_lt wL h6
  have hkm := hST.1
  obtain ⟨-, dL1, nL1, -, -⟩ := hkm _ hLZ
  have hbd := hST.2.2.2.2.2.2.2.1
  have hbL := hbd _ hLZ
  intro d
  induction d with
  | zero =>
    intro n M k hF hk hn hE hK
    obtain ⟨n, rfl⟩ : ∃ k, n = k + 1 := ⟨n - 1, by omega⟩
    have hR := hR0.fr hF
    have hT := hT0.fr hF (by rw [hF.i (by decide)]) (by rw [hF.i (by decide)]) (by rw [hF.i (by decide)]) (by decide)
    rw [f_X12_nextTight_51, wp_ck_t (GKk102 hG), m_railMany hG hR hT, wp_bind, wp_some, wp_ite_f (by rw [J_lt (by omega) (by omega) (by omega) (by omega)]; omega)]
    exact hK (by simp [pulT]) M hF
  | succ d ih =>
    intro n M k hF hk hn hE hK
    obtain ⟨n, rfl⟩ : ∃ k, n = k + 1 := ⟨n - 1, by omega⟩
    have hR := hR0.fr hF
    have hT := hT0.fr hF (by rw [hF.i (by decide)]) (by rw [hF.i (by decide)]) (by rw [hF.i (by decide)]) (by decide)
    have hAt := hAt0.fr hF (by decide) (by decide)
    rw [f_X12_nextTight_51, wp_ck_t (GKk102 hG), m_railMany hG hR hT, wp_bind, wp_some, wp_ite_t (by rw [J_lt (by omega) (by omega) (by omega) (by omega)]; omega), wp_bind]
    refine (m_layAt hG hR hAt (by omega) (by rw [wL.1]; omega)).mono (fun M1 h1 => ?_)
    obtain ⟨F1, A1⟩ := h1
    have R1 := hR.fr F1
    have T1 := hT.fr F1 (by rw [F1.i (by decide)]) (by rw [F1.i (by decide)]) (by rw [F1.i (by decide)]) (by decide)
    rw [wp_bind]
    refine (m_isLawful hG R1 T1 hw A1 wL (J f) (J m) (J k)).mono (fun r hr => ?_)
    obtain ⟨hr1, F2⟩ := hr
    rw [J_toInt (by omega) (by omega), J_toInt (by omega) (by omega), J_toInt (by omega) (by omega), Int.toNat_natCast, Int.toNat_natCast, Int.toNat_natCast] at hr1
    have R2 := R1.fr F2
    have T2 := T1.fr F2 (by rw [F2.i (by decide)]) (by rw [F2.i (by decide)]) (by rw [F2.i (by decide)]) (by decide)
    have A2 := A1.fr F2 (by decide) (by decide)
    have F12 : Fr [127, 128, 129, 130] M0 r.2 := hF.trans ((F1.sub (by decide)).trans (F2.sub (by decide)))
    by_cases c : okP T L f m k
    · rw [hr1, bi_t ⟨by omega, by omega, by omega, c⟩, wp_ite_f (by decide)]
      obtain ⟨c1, c2, c3, c4, c5⟩ := c.1
      have wm := wL.mvd c3 c1 c2 c5
      have hpm : (f, m, k) ∈ pulls T L := pulls_in c
      have T2b := T2
      obtain ⟨hb, e34, e105, e106, e109, e110, e108, e119, e111, e44, e45, g1, g2, l1, l2, e112, e113, e114, e115, e116, e123, e124⟩ := T2b
      have hmZ := hST.succ hIJ wL hLZ hpm
      have hwt := wt_rng hw h6 wL hpm
      rw [MRf20 R2, m_sumOf hG R2 T2 hw A2 wL (q := tw T) e114 (GKk114 hG) (by rw [GKl114 hG]) c1 c5, wp_bind, wp_some, wp_bind]
      refine (m_moves hG R2 w1 w2 A2 wL c1 c2 c3 c4 c5).mono (fun M3 h3 => ?_)
      obtain ⟨F3, A3⟩ := h3
      have F13 : Fr [127, 128, 129, 130] M0 M3 := F12.trans (F3.sub (by decide))
      have R3 := hR0.fr F13
      have T3 := hT0.fr F13 (by rw [F13.i (by decide)]) (by rw [F13.i (by decide)]) (by rw [F13.i (by decide)]) (by decide)
      have hst := m_stateOf hG R3 T3 hw A3 wm
      have hsl2 := stn_lt wm h6
      obtain ⟨-, d2, n2, -, -⟩ := hkm _ hmZ
      have hb2 := hbd _ hmZ
      have hB2 := hB _ hmZ
      rw [pulT_s, if_pos (okb_iff.mpr c), List.singleton_append] at hE hK
      have next : ¬ tgt T dw st B L (f, m, k) → wp (f_X12_nextTight_164 (f_X12_nextTight_51 kE K Γ n) Γ M3 102 (J (stn (tR T) L)) (J f) (J m) (J k)) Qp := by
        intro hn'
        rw [f_X12_nextTight_164, show (1 : Int32) = J 1 from rfl, J_add, J_suc]
        refine ih n M3 (k + 1) F13 (by omega) (by omega) (fun M' a pre post y1 y2 y3 y4 y5 => hE M' a ((f, m, k) :: pre) post y1 y2 (by rw [y3]; rfl) y4 (fun x hx => ?_)) (fun hx M' y => hK (fun x hx' => ?_) M' y)
        · rcases List.mem_cons.mp hx with e | e
          · rw [e]; exact hn'
          · exact y5 x e
        · rcases List.mem_cons.mp hx' with e | e
          · rw [e]; exact hn'
          · exact hx x e
      have hexit : tgt T dw st B L (f, m, k) → wp (kE M3 (J f) (J m) (J k)) Qp := fun ht => hE M3 (f, m, k) [] _ F13 A3 rfl ht (fun x hx => by cases hx)
      have eM : mvA L (f, m, k) = mv L f m k := rfl
      unfold tgt at next hexit
      rw [eM] at next hexit hmZ d2 n2 hb2 hB2
      have ewt : wtA T L (f, m, k) = sm (tw T) (sg L f m) := rfl
      rw [ewt] at next hexit hwt
      obtain ⟨s2, hs2⟩ : ∃ s, stn (tR T) (mv L f m k) = s := ⟨_, rfl⟩
      rw [hs2] at next hexit hmZ d2 n2 hb2 hB2 hsl2 hst
      obtain ⟨s1, hs1⟩ : ∃ s, stn (tR T) L = s := ⟨_, rfl⟩
      rw [hs1] at next hexit dL1 nL1 hbL hsl ⊢
      rw [hst, wp_bind, wp_some, MRf59 R3, wp_ck_t (GKk142 hG), GKl142 hG, J_toInt (by omega) (by omega), wp_ck_t (by omega), J_clamp (by omega) (by omega), Int.toNat_natCast, F13.i (by decide), hB2]
      by_cases cB : B s2
      · rw [bi_t cB, wp_ite_f (by decide), MRf57 R3, wp_ck_t (GKk140 hG), GKl140 hG, wp_ck_t (by omega), J_toInt (by omega) (by omega), wp_ck_t (by omega), J_clamp (by omega) (by omega), Int.toNat_natCast, F13.i (by decide), d2, dL1, J_add]
        by_cases cd : dw s2 = dw s1 + sm (tw T) (sg L f m)
        · rw [wp_ite_t (by rw [J_eq (by omega) (by omega) (by omega) (by omega)]; omega), MRf56 R3, wp_ck_t (GKk139 hG), GKl139 hG, wp_ck_t (by omega), wp_ck_t (by omega), F13.i (by decide), n2, nL1, show (1 : Int32) = J 1 from rfl, J_add]
          by_cases cn : st s2 = st s1 + 1
          · rw [wp_ite_t (by rw [J_eq (by omega) (by omega) (by omega) (by omega)]; omega)]
            exact hexit ⟨cB, cd, cn⟩
          · rw [wp_ite_f (by rw [J_eq (by omega) (by omega) (by omega) (by omega)]; omega)]
            exact next (fun h => cn h.2.2)
        · rw [wp_ite_f (by rw [J_eq (by omega) (by omega) (by omega) (by omega)]; omega)]
          exact next (fun h => cd h.2.1)
      · rw [bi_f cB, wp_ite_t rfl]
        exact next (fun h => cB h.1)
    · rw [hr1, bi_f (fun h => c h.2.2.2), wp_ite_t rfl, f_X12_nextTight_164, show (1 : Int32) = J 1 from rfl, J_add, J_suc]
      rw [pulT_s, okb_f c] at hE hK
      simp only [Bool.false_eq_true, if_false, List.nil_append] at hE hK
      exact ih n r.2 (k + 1) F12 (by omega) (by omega) hE hK
end
