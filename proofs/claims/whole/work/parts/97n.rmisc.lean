/-! REFERENCE: UNDO, JUDGE, TELL, GOAL, SIGHT, UNTELL, IMAGE, BACK, FEED, ABOUT -/
theorem by1_b (x : Int32) (s : Nat) : -128 ≤ (by1 x s).toInt ∧ (by1 x s).toInt < 128 := by
  have h : ∀ y : Int8, -128 ≤ y.toInt32.toInt ∧ y.toInt32.toInt < 128 := fun y => by
    rw [Int8.toInt_toInt32]
    exact ⟨y.le_toInt, y.toInt_lt⟩
  exact h _
theorem by1_ref (x : Int32) : ∀ (i : Nat), i < 20 → vp_nar .byte ((x >>> ((24 - (8 * (J i &&& 3))) &&& 31)).toInt8.toInt32) = by1 x (24 - 8 * (i % 4)) := by
  have e : ∀ i : Nat, i < 20 → ((24 - (8 * (J i &&& 3))) &&& 31 : Int32) = J ((24 - 8 * (i % 4) : Nat) : Int) := by decide +kernel
  have s : ∀ k : Nat, k < 25 → (x >>> (J k)).toInt8 = (rhus x (J k)).toInt8 := by
    intro k hk
    have s1 : ((J k).toBitVec.smod 32).toNat = k := by
      have : ∀ j : Fin 25, ((J (j.val : Int)).toBitVec.smod 32).toNat = j.val := by decide +kernel
      exact this ⟨k, hk⟩
    have s2 : (((J k).toUInt32 &&& Int32.toUInt32 31).toBitVec % 32).toNat = k := by
      have : ∀ j : Fin 25, (((J (j.val : Int)).toUInt32 &&& Int32.toUInt32 31).toBitVec % 32).toNat = j.val := by decide +kernel
      exact this ⟨k, hk⟩
    apply Int8.toBitVec_inj.mp
    show (x.toBitVec.sshiftRight' ((J k).toBitVec.smod 32)).signExtend 8 = (x.toBitVec >>> (((J k).toUInt32 &&& Int32.toUInt32 31).toBitVec % 32)).signExtend 8
    rw [BitVec.sshiftRight_eq', s1, BitVec.ushiftRight_eq', s2, BitVec.signExtend_eq_setWidth_of_le _ (by decide), BitVec.signExtend_eq_setWidth_of_le _ (by decide)]
    apply BitVec.eq_of_getLsbD_eq
    intro i hi
    have h1 : i < 32 := by omega
    have h2 : k + i < 32 := by omega
    simp only [BitVec.getLsbD_setWidth, BitVec.getLsbD_sshiftRight, BitVec.getLsbD_ushiftRight, h2, hi, decide_true, Bool.true_and, if_true]
    simp; omega
  intro i hi
  rw [e i hi, s _ (by omega)]
  rfl
section
variable {Γ : rhG} {M : rhM} {T : Tn} {L : Ar}
theorem r_undo36 (hG : GK Γ) (hw : TWf T) {N : Nat} (hN : N ≤ 300) : ∀ (d n : Nat) (M : rhM) (L : Ar) (bn : Bn) (k : Nat), MR M → RA M 128 0 129 0 L → R5 M bn → BN T (fst T) bn L → bn.length ≤ 300 → k + d = N → d ≤ bn.length → d < n →
    wp (f_X12_undo_36 (f_X12_undo_118 Γ) Γ n M 102 (J N) (J k)) (fun r => r.1 = J N ∧ KP [0, 4, 5] M r.2 ∧ KR M r.2 ∧ R4 r.2 (undL d bn L) ∧ R5 r.2 (bn.drop d)) := by
  intro d
  induction d with
  | zero =>
    intro n M L bn k hR hA h5 hB hl hk hd hn
    obtain ⟨n, rfl⟩ : ∃ k, n = k + 1 := ⟨n - 1, by omega⟩
    rw [f_X12_undo_36, wp_ite_f (by rw [J_lt (by omega) (by omega) (by omega) (by omega)]; omega), f_X12_undo_118, wp_ck_t (GKk102 hG), wp_bind]
    refine (r_keep hG hR hw hA (BN_WA hw hB)).mono (fun M1 h1 => ?_)
    rw [wp_some]
    exact ⟨rfl, h1.1.sub (by decide), h1.2.1, h1.2.2, h5.kp h1.1 (by decide)⟩
  | succ d ih =>
    intro n M L bn k hR hA h5 hB hl hk hd hn
    obtain ⟨n, rfl⟩ : ∃ k, n = k + 1 := ⟨n - 1, by omega⟩
    cases bn with
    | nil => rw [List.length_nil] at hd; omega
    | cons a r =>
      rw [List.length_cons] at hl hd
      obtain ⟨h51, h52, h53, h54⟩ := h5
      rw [List.length_cons] at h51
      rw [bcd_cons] at h53
      rw [bwt_cons] at h54
      obtain ⟨h53, h53'⟩ := Sg_pop h53
      obtain ⟨h54, h54'⟩ := Sg_pop h54
      rw [bcd_len] at h53'
      rw [bwt_len] at h54'
      have wL := BN_WA hw hB
      obtain ⟨L', b1, b2, b3, b4, b5, b6, b7, b8⟩ := BN_head hw hB
      have hl' := b2.rl_len (r := a.1.1) b3.1.1
      have w1 := hw.1
      have w2 := hw.2.1
      have d1 : a.1.1 ≤ 9 := by have := b3.1.1; omega
      have d2 : a.1.2.1 ≤ 9 := by have := b3.1.2.2.2.2; omega
      have d3 : a.1.2.2 ≤ 9 := by have := b3.1.2.1; omega
      have hcla : (J r.length).toNatClampNeg = r.length := by rw [J_clamp (by omega) (by omega), Int.toNat_natCast]
      have hrng : 0 ≤ (J r.length).toInt ∧ (J r.length).toInt < ((300 : Nat) : Int) := by rw [J_toInt (by omega) (by omega)]; omega
      rw [f_X12_undo_36, wp_ite_t (by rw [J_lt (by omega) (by omega) (by omega) (by omega)]; omega), wp_ck_t (GKk102 hG), MRf47 hR, MRf46 hR, wp_ck_t (GKk134 hG), GKl134 hG, h51, show (1 : Int32) = J 1 from rfl, J_sub, show ((r.length + 1 : Nat) : Int) - 1 = (r.length : Nat) by omega]
      simp only [si_1, Nat.reduceEqDiff, false_and, and_false, if_false, hcla, and_self, if_true, h54', h53', h52, GKl133 hG]
      rw [wp_ck_t hrng, wp_ck_t (GKk133 hG), wp_ck_t hrng, J_sub, cd_f d1 d2 d3, cd_m d1 d2 d3, cd_t d1 d2 d3]
      have hk5 : KP [5] M (rhsi (rhsi M 102 48 (J r.length)) 102 49 (J ((wsum (a :: r) : Int) - a.2))) := ((KP.refl _ _).si _ (by decide)).si _ (by decide)
      have hkr : KR M (rhsi (rhsi M 102 48 (J r.length)) 102 49 (J ((wsum (a :: r) : Int) - a.2))) := ((KR.refl _).si _ (by decide)).si _ (by decide)
      have hn5 : R5 (rhsi (rhsi M 102 48 (J r.length)) 102 49 (J ((wsum (a :: r) : Int) - a.2))) r := by
        refine ⟨by rw [si_1, if_neg (by omega), si_1, if_pos ⟨rfl, rfl⟩], by rw [si_1, if_pos ⟨rfl, rfl⟩, wsum_cons]; congr 1; omega, ?_, ?_⟩
        · exact Sg_cong _ 0 (fun i _ _ => by rw [si_1, if_neg (by omega), si_1, if_neg (by omega)]) h53
        · exact Sg_cong _ 0 (fun i _ _ => by rw [si_1, if_neg (by omega), si_1, if_neg (by omega)]) h54
      obtain ⟨M2, hM2⟩ : ∃ N, N = rhsi (rhsi M 102 48 (J r.length)) 102 49 (J ((wsum (a :: r) : Int) - a.2)) := ⟨_, rfl⟩
      rw [← hM2] at hk5 hkr hn5 ⊢
      have hR2 := hR.kp hk5 (by decide)
      have hA2 : RA M2 128 0 129 0 L := by
        have e8 : M2.1 128 = M.1 128 := hk5.i (by decide) (by decide) (by decide) (by decide)
        have e9 : M2.1 129 = M.1 129 := hk5.i (by decide) (by decide) (by decide) (by decide)
        unfold RA; rw [e8, e9]; exact hA
      rw [wp_bind]
      refine (r_moves hG hR2 hw hA2 wL b7).mono (fun M3 h3 => ?_)
      obtain ⟨q1, q2, q3⟩ := h3
      rw [J_add, J_suc]
      refine (ih n M3 (mv L a.1.2.2 a.1.2.1 a.1.1) r (k + 1) (hR2.kp q1 (by decide)) q3 (hn5.kp q1 (by decide)) (by rw [b6]; exact b1) (by omega) (by omega) (by omega) (by omega)).mono (fun x hx => ?_)
      obtain ⟨y1, y2, y3, y4, y5⟩ := hx
      exact ⟨y1, ((hk5.sub (by decide)).trans (q1.sub (by decide))).trans y2, (hkr.trans q2).trans y3, by rw [undL]; exact y4, by rw [List.drop_succ_cons]; exact y5⟩
theorem r_undo (hG : GK Γ) (hR : MR M) (hw : TWf T) (h4 : R4 M L) {bn : Bn} (h5 : R5 M bn) (hB : BN T (fst T) bn L) (hb : bn.length ≤ 300) {z : Int} (z1 : -2147483648 ≤ z) (z2 : z < 2147483648) : wp (f_X12_undo Γ M 102 (J z)) (fun r => r.1 = J (undV bn z) ∧ KP [0, 4, 5] M r.2 ∧ KR M r.2 ∧ R4 r.2 (undL (undN bn z) bn L) ∧ R5 r.2 (bn.drop (undN bn z))) := by
  unfold undV undN
  rw [f_X12_undo, show (0 : Int32) = J 0 from rfl, show (300 : Int32) = J 300 from rfl, m_isInJ z1 z2 (by omega) (by omega) (by omega) (by omega), wp_bind, wp_some]
  by_cases c : 0 ≤ z ∧ z ≤ 300
  · have go : wp (f_X12_undo_29 Γ M 102 (J ((min z.toNat bn.length : Nat) : Int))) (fun r => r.1 = J (min z bn.length) ∧ KP [0, 4, 5] M r.2 ∧ KR M r.2 ∧ R4 r.2 (undL (min z.toNat bn.length) bn L) ∧ R5 r.2 (bn.drop (min z.toNat bn.length))) := by
      rw [f_X12_undo_29, wp_ck_t (GKk102 hG), wp_bind]
      refine (r_lay hG hR h4 hw (BN_WA hw hB)).mono (fun M1 h1 => ?_)
      obtain ⟨q1, q2, q3⟩ := h1
      refine (r_undo36 (N := min z.toNat bn.length) hG hw (by omega) (min z.toNat bn.length) rhFU M1 L bn 0 (hR.kp q1 (by decide)) q3 (h5.kp q1 (by decide)) hB hb (by omega) (by omega) (by have := FU_big; omega)).mono (fun r hr => ?_)
      obtain ⟨y1, y2, y3, y4, y5⟩ := hr
      exact ⟨by rw [y1]; congr 1; omega, (q1.sub (by decide)).trans y2, q2.trans y3, y4, y5⟩
    rw [bi_t c, wp_ite_f (by decide), wp_ck_t (GKk102 hG), h5.1, if_pos c, if_pos c]
    by_cases c2 : z < bn.length
    · have ez : J z = J ((min z.toNat bn.length : Nat) : Int) := by congr 1; omega
      rw [wp_ite_t (by rw [J_lt (by omega) (by omega) (by omega) (by omega)]; exact c2), ez]
      exact go
    · have ez : J bn.length = J ((min z.toNat bn.length : Nat) : Int) := by congr 1; omega
      rw [wp_ite_f (by rw [J_lt (by omega) (by omega) (by omega) (by omega)]; exact c2), ez]
      exact go
  · rw [bi_f c, wp_ite_t (show (0 : Int32) = J 0 from rfl), wp_some, if_neg c, if_neg c]
    exact ⟨rfl, KP.refl _ _, KR.refl _, h4, h5⟩
theorem r_judge21 (hG : GK Γ) (hw : TWf T) {tl : List Tr} (htl : tl.length ≤ 12) (ht9 : ∀ a, a ∈ tl → a.1 < tR T ∧ a.2.2 < tR T ∧ a.1 ≠ a.2.2 ∧ 1 ≤ a.2.1 ∧ a.2.1 ≤ 8) (z : Int32) (Q : Int32 × rhM → Prop) : ∀ (l : List Tr) (n : Nat) (M : rhM) (L : Ar) (w k : Nat), MR M → R3 M T → R6 M tl → RA M 128 0 129 0 L → WA (tR T) (tH T) L → tl.drop k = l → k + l.length = tl.length → l.length < n →
    (∀ M', KP [0] M M' → KR M M' → RA M' 128 0 129 0 (jdg T l L).2.2 → WA (tR T) (tH T) (jdg T l L).2.2 → (jdg T l L).1 < l.length → wp (f_X12_judge_78 Γ M' 102 z (J ((w + (jdg T l L).2.1 : Nat) : Int)) (J ((k + (jdg T l L).1 : Nat) : Int))) Q) →
    (∀ M', KP [0] M M' → KR M M' → RA M' 128 0 129 0 (jdg T l L).2.2 → WA (tR T) (tH T) (jdg T l L).2.2 → (jdg T l L).1 = l.length → wp (f_X12_judge_131 Γ M' 102 z (J ((w + (jdg T l L).2.1 : Nat) : Int))) Q) →
    wp (f_X12_judge_21 (f_X12_judge_78 Γ) (f_X12_judge_131 Γ) Γ n M 102 z (J w) (J k)) Q := by
  have w1 := hw.1
  have w2 := hw.2.1
  intro l
  induction l with
  | nil =>
    intro n M L w k hR h3 h6 hA wL hd hk hn hQ hQ2
    obtain ⟨n, rfl⟩ : ∃ k, n = k + 1 := ⟨n - 1, by omega⟩
    rw [List.length_nil] at hk
    rw [f_X12_judge_21, wp_ck_t (GKk102 hG), h6.1, wp_ite_f (by rw [J_lt (by omega) (by omega) (by omega) (by omega)]; omega)]
    exact hQ2 M (KP.refl _ _) (KR.refl _) hA wL rfl
  | cons a l ih =>
    intro n M L w k hR h3 h6 hA wL hd hk hn hQ hQ2
    obtain ⟨n, rfl⟩ : ∃ k, n = k + 1 := ⟨n - 1, by omega⟩
    rw [List.length_cons] at hk hn
    have hkl : k < tl.length := by omega
    have hdr := List.drop_eq_getElem_cons hkl
    rw [hd] at hdr
    have hak := (List.cons.inj hdr).1.symm
    have hdl := (List.cons.inj hdr).2.symm
    have ha := ht9 a (by rw [← hak]; exact List.getElem_mem hkl)
    have hcd : M.1 135 k = J (cdT a) := by
      have := Sg_get h6.2 (i := k) (by rw [List.length_map]; exact hkl)
      rw [Nat.zero_add] at this
      rw [this, gd_el _ (by rw [List.length_map]; exact hkl), List.getElem_map, hak]
    have d1 : a.1 ≤ 9 := by omega
    have d2 : a.2.1 ≤ 9 := by omega
    have d3 : a.2.2 ≤ 9 := by omega
    rw [f_X12_judge_21, wp_ck_t (GKk102 hG), h6.1, wp_ite_t (by rw [J_lt (by omega) (by omega) (by omega) (by omega)]; omega), MRf50 hR, wp_ck_t (GKk135 hG), wp_ck_t (by rw [GKl135 hG, J_toInt (by omega) (by omega)]; omega), J_clamp (by omega) (by omega), Int.toNat_natCast, hcd, cd_f d1 d2 d3, cd_m d1 d2 d3, cd_t d1 d2 d3, wp_bind]
    refine (r_law hG hR h3 hw hA wL (by omega) (by omega) (by omega) (by omega) (by omega) (by omega)).mono (fun r hr => ?_)
    obtain ⟨v1, M1⟩ := r
    obtain ⟨hv, hF⟩ := hr
    dsimp only at hv hF ⊢
    have kp1 := KP_127 hF
    have kr1 : KR M M1 := KR.fr hF (by decide)
    have hR1 := hR.kp kp1 (by decide)
    have h31 := h3.kp kp1 (by decide)
    have h61 := h6.kp kp1 (by decide)
    have hA1 := hA.fr hF (by decide) (by decide)
    rw [jdg] at hQ hQ2
    by_cases c : okP T L a.1 a.2.1 a.2.2
    · rw [pick_t c] at hQ hQ2
      rw [hv, bi_t (okZ_of.mpr c), wp_ite_f (by decide), MRf20 hR1, r_sumW hG hR1 h31 hw hA1 wL c.1.1 c.1.2.2.2.2, wp_bind, wp_some, wp_bind]
      have wL2 := wL.mvd c.1.2.2.1 c.1.1 c.1.2.1 c.1.2.2.2.2
      refine (r_moves hG hR1 hw hA1 wL c.1).mono (fun M2 h2 => ?_)
      obtain ⟨q1, q2, q3⟩ := h2
      rw [J_add, show (1 : Int32) = J 1 from rfl, J_add, J_suc]
      have ew : ∀ x : Nat, w + wtA T L a + x = w + (x + wtA T L a) := fun x => by omega
      refine ih n M2 (mvA L a) (w + wtA T L a) (k + 1) (hR1.kp q1 (by decide)) (h31.kp q1 (by decide)) (h61.kp q1 (by decide)) q3 wL2 hdl (by omega) (by omega) (fun M' y1 y2 y3 y4 y5 => ?_) (fun M' y1 y2 y3 y4 y5 => ?_)
      · have := hQ M' ((kp1.trans q1).trans y1) ((kr1.trans q2).trans y2) y3 y4 (by dsimp only; rw [List.length_cons]; omega)
        rw [ew, show k + 1 + (jdg T l (mvA L a)).1 = k + ((jdg T l (mvA L a)).1 + 1) by omega]
        exact this
      · have := hQ2 M' ((kp1.trans q1).trans y1) ((kr1.trans q2).trans y2) y3 y4 (by dsimp only; rw [List.length_cons]; omega)
        rw [ew]
        exact this
    · rw [pick_f c] at hQ hQ2
      rw [hv, bi_f (fun h => c (okZ_of.mp h)), wp_ite_t rfl]
      exact hQ M1 kp1 kr1 hA1 wL (by dsimp only; rw [List.length_cons]; omega)
theorem r_judge (hG : GK Γ) (hR : MR M) (h3 : R3 M T) (hw : TWf T) (h4 : R4 M L) (wL : WA (tR T) (tH T) L) {tl : List Tr} (h6 : R6 M tl) (htl : tl.length ≤ 12) (ht9 : ∀ a, a ∈ tl → a.1 < tR T ∧ a.2.2 < tR T ∧ a.1 ≠ a.2.2 ∧ 1 ≤ a.2.1 ∧ a.2.1 ≤ 8) {z : Int} (z1 : -2147483648 ≤ z) (z2 : z < 2147483648) : wp (f_X12_judge Γ M 102 (J z)) (fun r => r.1 = J (jdgV T tl L z) ∧ KP [0] M r.2 ∧ KR M r.2) := by
  unfold jdgV
  rw [f_X12_judge, show (0 : Int32) = J 0 from rfl, show (2 : Int32) = J 2 from rfl, m_isInJ z1 z2 (by omega) (by omega) (by omega) (by omega), wp_bind, wp_some]
  by_cases c : 0 ≤ z ∧ z ≤ 2
  · rw [bi_t c, wp_ite_f (by decide), wp_ck_t (GKk102 hG), wp_bind]
    refine (r_lay hG hR h4 hw wL).mono (fun M1 h1 => ?_)
    obtain ⟨q1, q2, q3⟩ := h1
    refine r_judge21 hG hw htl ht9 (J z) _ tl rhFU M1 L 0 0 (hR.kp q1 (by decide)) (h3.kp q1 (by decide)) (h6.kp q1 (by decide)) q3 wL rfl (by omega) (by have := FU_big; omega) (fun M2 y1 y2 y3 y4 y5 => ?_) (fun M2 y1 y2 y3 y4 y5 => ?_)
    · have hk := q1.trans y1
      obtain ⟨bk, lb, hT2⟩ := h3.kp hk (by decide)
      rw [Nat.zero_add, Nat.zero_add, f_X12_judge_78]
      by_cases c1 : z = 0
      · rw [wp_ite_t (by rw [c1]; rfl), wp_some, if_pos c1, if_neg (by omega)]
        exact ⟨rfl, hk, q2.trans y2⟩
      rw [wp_ite_f (by rw [show (0 : Int32) = J 0 from rfl, J_eq (by omega) (by omega) (by omega) (by omega)]; exact c1), if_neg c1]
      by_cases c2 : z = 1
      · rw [wp_ite_t (by rw [c2]; rfl), wp_some, if_pos c2]
        exact ⟨rfl, hk, q2.trans y2⟩
      rw [wp_ite_f (by rw [show (1 : Int32) = J 1 from rfl, J_eq (by omega) (by omega) (by omega) (by omega)]; exact c2), wp_ck_t (GKk102 hG), m_worth hG (hR.kp hk (by decide)) hT2 hw y3 y4, wp_bind, wp_some, wp_some, if_neg c2, if_pos (by omega)]
      exact ⟨rfl, hk, q2.trans y2⟩
    · have hk := q1.trans y1
      obtain ⟨bk, lb, hT2⟩ := h3.kp hk (by decide)
      rw [Nat.zero_add, f_X12_judge_131]
      by_cases c1 : z = 0
      · rw [wp_ite_t (by rw [c1]; rfl), wp_some, if_pos c1, if_pos y5]
        exact ⟨rfl, hk, q2.trans y2⟩
      rw [wp_ite_f (by rw [show (0 : Int32) = J 0 from rfl, J_eq (by omega) (by omega) (by omega) (by omega)]; exact c1), if_neg c1]
      by_cases c2 : z = 1
      · rw [wp_ite_t (by rw [c2]; rfl), wp_some, if_pos c2]
        exact ⟨rfl, hk, q2.trans y2⟩
      rw [wp_ite_f (by rw [show (1 : Int32) = J 1 from rfl, J_eq (by omega) (by omega) (by omega) (by omega)]; exact c2), wp_ck_t (GKk102 hG), m_worth hG (hR.kp hk (by decide)) hT2 hw y3 y4, wp_bind, wp_some, wp_some, if_neg c2, if_pos (by omega)]
      exact ⟨rfl, hk, q2.trans y2⟩
  · rw [bi_f c, wp_ite_t (show (0 : Int32) = J 0 from rfl), wp_some, if_neg (by omega), if_neg (by omega), if_neg (by omega)]
    exact ⟨rfl, KP.refl _ _, KR.refl _⟩
theorem r_tell (hG : GK Γ) (hR : MR M) (h3 : R3 M T) (hw : TWf T) {tl : List Tr} (h6 : R6 M tl) (htl : tl.length ≤ 12) {a : Int} (a1 : -2147483648 ≤ a) (a2 : a < 2147483648) {m : Int} (m1 : -2147483648 ≤ m) (m2 : m < 2147483648) {b : Int} (b1 : -2147483648 ≤ b) (b2 : b < 2147483648) : wp (f_X12_tell Γ M 102 (J a) (J m) (J b)) (fun r => r.1 = J (telV T tl a m b) ∧ KP [6] M r.2 ∧ KR M r.2 ∧ R6 r.2 (telL T tl a m b)) := by
  have w1 := hw.1
  obtain ⟨bk, lb, hT⟩ := h3
  unfold telV telL
  have no : ¬ telOK T tl a m b → (((J (-1)), M).1 = J (pick (telOK T tl a m b) ((tl.length : Int) + 1) (-1)) ∧ KP [6] M (J (-1), M).2 ∧ KR M (J (-1), M).2 ∧ R6 (J (-1), M).2 (pick (telOK T tl a m b) (tl ++ [(a.toNat, m.toNat, b.toNat)]) tl)) := fun h => by
    rw [pick_f h, pick_f h]; exact ⟨rfl, KP.refl _ _, KR.refl _, h6⟩
  rw [f_X12_tell, wp_ck_t (GKk102 hG), m_isRailJ hG hR hT hw a1 a2, wp_bind, wp_some]
  by_cases c : ¬ (0 ≤ a ∧ a < tR T)
  · rw [bi_f c, wp_ite_t rfl, wp_some]; exact no (by unfold telOK; omega)
  have c := Classical.not_not.mp c
  rw [bi_t c, wp_ite_f (by decide), m_isRailJ hG hR hT hw b1 b2, wp_bind, wp_some]
  by_cases c2 : ¬ (0 ≤ b ∧ b < tR T)
  · rw [bi_f c2, wp_ite_t rfl, wp_some]; exact no (by unfold telOK; omega)
  have c2 := Classical.not_not.mp c2
  rw [bi_t c2, wp_ite_f (by decide)]
  by_cases c3 : a = b
  · rw [wp_ite_t (by rw [c3]), wp_some]; exact no (by unfold telOK; omega)
  rw [wp_ite_f (by rw [J_eq (by omega) (by omega) (by omega) (by omega)]; exact c3), show (1 : Int32) = J 1 from rfl, show (8 : Int32) = J 8 from rfl, m_isInJ m1 m2 (by omega) (by omega) (by omega) (by omega), wp_bind, wp_some]
  by_cases c4 : ¬ (1 ≤ m ∧ m ≤ 8)
  · rw [bi_f c4, wp_ite_t rfl, wp_some]; exact no (by unfold telOK; omega)
  have c4 := Classical.not_not.mp c4
  rw [bi_t c4, wp_ite_f (by decide), h6.1]
  by_cases c5 : tl.length = 12
  · rw [wp_ite_t (by rw [c5]; rfl), wp_some]; exact no (by unfold telOK; omega)
  obtain ⟨f, rfl⟩ : ∃ n : Nat, a = n := ⟨a.toNat, by omega⟩
  obtain ⟨k, rfl⟩ : ∃ n : Nat, m = n := ⟨m.toNat, by omega⟩
  obtain ⟨q, rfl⟩ : ∃ n : Nat, b = n := ⟨b.toNat, by omega⟩
  have hok : telOK T tl (f : Int) k q := by unfold telOK; omega
  rw [wp_ite_f (by rw [show (12 : Int32) = J 12 from rfl, J_eq (by omega) (by omega) (by omega) (by omega)]; omega), MRf50 hR, wp_ck_t (GKk135 hG), wp_ck_t (by rw [GKl135 hG, J_toInt (by omega) (by omega)]; omega), pick_t hok, pick_t hok, J_clamp (by omega) (by omega), Int.toNat_natCast, Int.toNat_natCast, Int.toNat_natCast, Int.toNat_natCast, c_codeE]
  dsimp only
  rw [wp_some]
  dsimp only
  rw [si_1, if_pos ⟨rfl, rfl⟩, si_1, if_neg (by omega), h6.1, J_add]
  refine ⟨rfl, ((KP.refl _ _).si _ (by rw [idc_cell (by decide) (by decide) (by decide)]; decide)).si _ (by decide), ((KR.refl _).si _ (by decide)).si _ (by decide), ?_, ?_⟩
  · rw [si_1, if_pos ⟨rfl, rfl⟩, List.length_append]; rfl
  · rw [List.map_append]
    refine Sg_push h6.2 (fun i hi => ?_) ?_
    · rw [List.length_map] at hi
      rw [si_1, if_neg (by omega), si_1, if_neg (by omega)]
    · rw [List.length_map, si_1, if_neg (by omega), si_1, if_pos ⟨rfl, rfl⟩]
end
