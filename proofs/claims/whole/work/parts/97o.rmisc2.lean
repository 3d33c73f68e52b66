/-! REFERENCE: GOAL, SIGHT, UNTELL, IMAGE, BACK, FEED, ABOUT -/
section
variable {Γ : rhG} {M : rhM} {T : Tn} {L : Ar}
theorem r_goal12 (hG : GK Γ) (hR : MR M) {gl : List Nat} (h7 : R7 M gl) (hl : gl.length ≤ 8) (hg : ∀ h, h ∈ gl → h < 8) {z : Nat} (hz : z < 8) (K : rhM → Nat → Int32 → Option (Int32 × rhM)) : ∀ (l : List Nat) (n k : Nat), gl.drop k = l → k + l.length = gl.length → l.length < n → f_X12_goal_12 K Γ n M 102 (J z) (J k) = if z ∈ l then some (-1, M) else K M 102 (J z) := by
  intro l
  induction l with
  | nil =>
    intro n k hd hk hn
    obtain ⟨n, rfl⟩ : ∃ k, n = k + 1 := ⟨n - 1, by omega⟩
    rw [List.length_nil] at hk
    rw [f_X12_goal_12, rhck_t (GKk102 hG), h7.1, if_neg (by rw [J_lt (by omega) (by omega) (by omega) (by omega)]; omega), if_neg (by simp)]
  | cons x l ih =>
    intro n k hd hk hn
    obtain ⟨n, rfl⟩ : ∃ k, n = k + 1 := ⟨n - 1, by omega⟩
    rw [List.length_cons] at hk hn
    have hkl : k < gl.length := by omega
    have hdr := List.drop_eq_getElem_cons hkl
    rw [hd] at hdr
    have hx := (List.cons.inj hdr).1.symm
    have hx8 := hg x (by rw [← hx]; exact List.getElem_mem hkl)
    have hgv := Sg_get (i := k) h7.2 hkl
    rw [Nat.zero_add, gd_el _ hkl, hx] at hgv
    rw [f_X12_goal_12, rhck_t (GKk102 hG), h7.1, if_pos (by rw [J_lt (by omega) (by omega) (by omega) (by omega)]; omega), MRf52 hR, rhck_t (GKk136 hG), rhck_t (by rw [GKl136 hG, J_toInt (by omega) (by omega)]; omega), J_clamp (by omega) (by omega), Int.toNat_natCast, hgv]
    by_cases c : x = z
    · rw [if_pos (by rw [c]), if_pos (by simp [c])]
    · rw [if_neg (by rw [J_eq (by omega) (by omega) (by omega) (by omega)]; omega)]
      dsimp only
      rw [show (1 : Int32) = J 1 from rfl, J_add, J_suc, ih n (k + 1) (List.cons.inj hdr).2.symm (by omega) (by omega)]
      by_cases c2 : z ∈ l
      · rw [if_pos c2, if_pos (List.mem_cons_of_mem _ c2)]; exact rfl
      · rw [if_neg c2, if_neg (fun h => (List.mem_cons.mp h).elim (fun e => c e.symm) c2)]
theorem r_goal (hG : GK Γ) (hR : MR M) (h3 : R3 M T) (hw : TWf T) {gl : List Nat} (h7 : R7 M gl) (hnd : gl.Nodup) (hg : ∀ h, h ∈ gl → h < tH T) {z : Int} (z1 : -2147483648 ≤ z) (z2 : z < 2147483648) : wp (f_X12_goal Γ M 102 (J z)) (fun r => r.1 = J (goaV T gl z) ∧ KP [7] M r.2 ∧ KR M r.2 ∧ R7 r.2 (goaL T gl z)) := by
  have w2 := hw.2.1
  have hl := nd8 hnd hg
  obtain ⟨bk, lb, hT⟩ := h3
  unfold goaV goaL
  rw [f_X12_goal, wp_ck_t (GKk102 hG), m_isHouseJ hG hR hT hw z1 z2, wp_bind, wp_some]
  by_cases c : 0 ≤ z ∧ z < tH T
  · rw [bi_t c, wp_ite_f (by decide)]
    obtain ⟨n, rfl⟩ : ∃ n : Nat, z = n := ⟨z.toNat, by omega⟩
    have hi := r_goal12 (z := n) hG hR h7 (by omega) (fun h hh => by have := hg h hh; omega) (by omega) (f_X12_goal_38 Γ) gl rhFU 0 rfl (by omega) (by have := FU_big; omega)
    rw [show ((0 : Nat) : Int) = 0 from rfl] at hi
    rw [Int.toNat_natCast, show (0 : Int32) = J 0 from rfl, hi]
    by_cases c2 : n ∈ gl
    · rw [if_pos c2, wp_some, pick_f (by unfold goaOK; rw [Int.toNat_natCast]; exact fun h => h.2.2 c2), pick_f (by unfold goaOK; rw [Int.toNat_natCast]; exact fun h => h.2.2 c2)]
      exact ⟨rfl, KP.refl _ _, KR.refl _, h7⟩
    · have hs := nd8s hnd hg (by omega) c2
      have hok : goaOK T gl (n : Int) := by unfold goaOK; rw [Int.toNat_natCast]; exact ⟨c.1, c.2, c2⟩
      rw [if_neg c2, f_X12_goal_38, wp_ck_t (GKk102 hG), MRf52 hR, wp_ck_t (GKk136 hG), h7.1, wp_ck_t (by rw [GKl136 hG, J_toInt (by omega) (by omega)]; omega), J_clamp (by omega) (by omega), Int.toNat_natCast, pick_t hok, pick_t hok]
      dsimp only
      rw [wp_some]
      dsimp only
      rw [si_1, if_pos ⟨rfl, rfl⟩, si_1, if_neg (by omega), h7.1, show (1 : Int32) = J 1 from rfl, J_add]
      refine ⟨rfl, ((KP.refl _ _).si _ (by rw [idc_cell (by decide) (by decide) (by decide)]; decide)).si _ (by decide), ((KR.refl _).si _ (by decide)).si _ (by decide), ?_, ?_⟩
      · rw [si_1, if_pos ⟨rfl, rfl⟩, List.length_append]; rfl
      · refine Sg_push h7.2 (fun i hi => ?_) ?_
        · rw [si_1, if_neg (by omega), si_1, if_neg (by omega)]
        · rw [si_1, if_neg (by omega), si_1, if_pos ⟨rfl, rfl⟩]
  · rw [bi_f c, wp_ite_t rfl, wp_some, pick_f (by unfold goaOK; omega), pick_f (by unfold goaOK; omega)]
    exact ⟨rfl, KP.refl _ _, KR.refl _, h7⟩
theorem r_sight (hG : GK Γ) (hR : MR M) (h3 : R3 M T) (hw : TWf T) {sg : List Si} (h10 : R10 M sg) (hl : sg.length ≤ 20) {tm : Nat} (h11 : R11 M tm) {n : Int} (n1 : -2147483648 ≤ n) (n2 : n < 2147483648) {h : Int} (h1 : -2147483648 ≤ h) (h2 : h < 2147483648) {r : Int} (r1 : -2147483648 ≤ r) (r2 : r < 2147483648) {v : Nat} (hv : v < 2) : wp (f_X12_sight Γ M 102 (J n) (J h) (J r) (J v)) (fun x => x.1 = J (sigV T sg n h r) ∧ KP [10] M x.2 ∧ KR M x.2 ∧ R10 x.2 (sigL T sg n h r v tm)) := by
  obtain ⟨bk, lb, hT⟩ := h3
  unfold sigV sigL
  rw [f_X12_sight, show (0 : Int32) = J 0 from rfl, show (3 : Int32) = J 3 from rfl, m_isInJ n1 n2 (by omega) (by omega) (by omega) (by omega), wp_bind, wp_some]
  by_cases c : ¬ (0 ≤ n ∧ n ≤ 3)
  · rw [bi_f c, wp_ite_t (show (0 : Int32) = J 0 from rfl), wp_some, pick_f (by unfold sigOK; omega), pick_f (by unfold sigOK; omega)]
    exact ⟨rfl, KP.refl _ _, KR.refl _, h10⟩
  have c := Classical.not_not.mp c
  rw [bi_t c, wp_ite_f (by decide), wp_ck_t (GKk102 hG), m_isHouseJ hG hR hT hw h1 h2, wp_bind, wp_some]
  by_cases c3 : ¬ (0 ≤ h ∧ h < tH T)
  · rw [bi_f c3, wp_ite_t (show (0 : Int32) = J 0 from rfl), wp_some, pick_f (by unfold sigOK; omega), pick_f (by unfold sigOK; omega)]
    exact ⟨rfl, KP.refl _ _, KR.refl _, h10⟩
  have c3 := Classical.not_not.mp c3
  rw [bi_t c3, wp_ite_f (by decide), m_isRailJ hG hR hT hw r1 r2, wp_bind, wp_some]
  by_cases c4 : ¬ (0 ≤ r ∧ r < tR T)
  · rw [bi_f c4, wp_ite_t (show (0 : Int32) = J 0 from rfl), wp_some, pick_f (by unfold sigOK; omega), pick_f (by unfold sigOK; omega)]
    exact ⟨rfl, KP.refl _ _, KR.refl _, h10⟩
  have c4 := Classical.not_not.mp c4
  rw [bi_t c4, wp_ite_f (by decide), h10.1]
  by_cases c5 : sg.length = 20
  · rw [wp_ite_t (by rw [c5]; rfl), wp_some, pick_f (by unfold sigOK; omega), pick_f (by unfold sigOK; omega)]
    exact ⟨rfl, KP.refl _ _, KR.refl _, h10⟩
  obtain ⟨n, rfl⟩ : ∃ k : Nat, n = k := ⟨n.toNat, by omega⟩
  obtain ⟨h, rfl⟩ : ∃ k : Nat, h = k := ⟨h.toNat, by omega⟩
  obtain ⟨r, rfl⟩ : ∃ k : Nat, r = k := ⟨r.toNat, by omega⟩
  have hok : sigOK T sg (n : Int) h r := by unfold sigOK; omega
  have hk : (J sg.length).toNatClampNeg = sg.length := by rw [J_clamp (by omega) (by omega), Int.toNat_natCast]
  have hr : 0 ≤ (J sg.length).toInt ∧ (J sg.length).toInt < ((20 : Nat) : Int) := by rw [J_toInt (by omega) (by omega)]; omega
  rw [wp_ite_f (by rw [show (20 : Int32) = J 20 from rfl, J_eq (by omega) (by omega) (by omega) (by omega)]; omega), MRf72 hR, MRf73 hR, MRf74 hR, MRf75 hR, MRf76 hR, MRf81 hR, wp_ck_t (GKk149 hG), pick_t hok, pick_t hok, Int.toNat_natCast, Int.toNat_natCast, Int.toNat_natCast, GKl149 hG, wp_ck_t hr, hk]
  simp only [si_1, Nat.reduceEqDiff, false_and, and_false, if_false, h10.1, GKl150 hG, GKl151 hG, GKl152 hG, GKl153 hG, GKl158 hG, wp_ck_t (GKk150 hG), wp_ck_t (GKk151 hG), wp_ck_t (GKk152 hG), wp_ck_t (GKk153 hG), wp_ck_t (GKk158 hG), wp_ck_t hr, hk, wp_some, and_self, if_true]
  rw [nar_b1 v hv, show M.1 102 83 = J tm from h11]
  refine ⟨by rw [show (1 : Int32) = J 1 from rfl, J_add, J_sub]; congr 1; omega, (((((((KP.refl _ _).si _ (by rw [idc_cell (by decide) (by decide) (by decide)]; decide)).si _ (by rw [idc_cell (by decide) (by decide) (by decide)]; decide)).si _ (by rw [idc_cell (by decide) (by decide) (by decide)]; decide)).si _ (by rw [idc_cell (by decide) (by decide) (by decide)]; decide)).si _ (by rw [idc_cell (by decide) (by decide) (by decide)]; decide)).si _ (by rw [idc_cell (by decide) (by decide) (by decide)]; decide)).si _ (by decide), (((((((KR.refl _).si _ (by decide)).si _ (by decide)).si _ (by decide)).si _ (by decide)).si _ (by decide)).si _ (by decide)).si _ (by decide), ?_, fun i s hs => ?_⟩
  · rw [si_1, if_pos ⟨rfl, rfl⟩, show (1 : Int32) = J 1 from rfl, J_add, List.length_append]; rfl
  · by_cases ci : i < sg.length
    · rw [List.getElem?_append_left ci] at hs
      have hne : ¬ i = sg.length := by omega
      simp only [si_1, Nat.reduceEqDiff, false_and, if_false, true_and, hne]
      exact h10.2 i s hs
    · have e : i = sg.length := by
        by_cases c6 : i - sg.length = 0
        · omega
        · rw [List.getElem?_append_right (by omega), List.getElem?_eq_none (by simp; omega)] at hs; cases hs
      rw [e, List.getElem?_append_right (by omega), Nat.sub_self] at hs
      have hs2 := Option.some.inj hs
      rw [e, ← hs2]
      simp only [si_1, Nat.reduceEqDiff, false_and, if_false, true_and, if_true]
      exact rfl
theorem r_untell (hG : GK Γ) (hR : MR M) {sg : List Si} (h10 : R10 M sg) (hl : sg.length ≤ 20) {tm : Nat} (h11 : R11 M tm) (hsg : ∀ s, s ∈ sg → -1 ≤ s.2.2.2 ∧ s.2.2.2 ≤ 100000) {z : Int} (z1 : -2147483648 ≤ z) (z2 : z < 2147483648) : wp (f_X12_untell Γ M 102 (J z)) (fun x => x.1 = bi (untOK sg z) ∧ KP [10] M x.2 ∧ KR M x.2 ∧ R10 x.2 (untL sg z tm)) := by
  unfold untL
  have hf : ∀ (h : ¬ untOK sg z), (((0 : Int32), M).1 = bi (untOK sg z) ∧ KP [10] M ((0 : Int32), M).2 ∧ KR M ((0 : Int32), M).2 ∧ R10 ((0 : Int32), M).2 (pick (untOK sg z) (sg.modify z.toNat (untS tm)) sg)) := fun h => by
    rw [bi_f h, pick_f h]; exact ⟨rfl, KP.refl _ _, KR.refl _, h10⟩
  rw [f_X12_untell, wp_ck_t (GKk102 hG), h10.1, show (1 : Int32) = J 1 from rfl, J_sub, show f_X12_isIn Γ M (J z) 0 (J ((sg.length : Int) - 1)) = _ from m_isInJ z1 z2 (a := 0) (by omega) (by omega) (by omega) (by omega), wp_bind, wp_some]
  by_cases c2 : 0 ≤ z ∧ z ≤ (sg.length : Int) - 1
  · obtain ⟨n, rfl⟩ : ∃ n : Nat, z = n := ⟨z.toNat, by omega⟩
    have hn : n < sg.length := by omega
    rw [bi_t c2, wp_ite_f (by decide), MRf76 hR, wp_ck_t (GKk153 hG), wp_ck_t (by rw [GKl153 hG, J_toInt (by omega) (by omega)]; omega), J_clamp (by omega) (by omega), Int.toNat_natCast]
    have hs : sg[n]? = some sg[n] := List.getElem?_eq_getElem hn
    obtain ⟨b1, b2⟩ := hsg _ (List.getElem_mem hn)
    rw [(h10.2 n _ hs).2.2.2.2.2]
    by_cases c3 : (sg[n]).2.2.2 = -1
    · have hok : untOK sg (n : Int) := ⟨by omega, sg[n], by rw [Int.toNat_natCast]; exact hs, c3⟩
      rw [wp_ite_t (by rw [c3]; decide), wp_some, bi_t hok, pick_t hok, show M.1 102 83 = J tm from h11]
      refine ⟨rfl, (KP.refl _ _).si _ (by rw [idc_cell (by decide) (by decide) (by decide)]; decide), (KR.refl _).si _ (by decide), ?_, fun i x hx => ?_⟩
      · dsimp only; rw [si_1, if_neg (by omega), h10.1, List.length_modify]
      · rw [List.getElem?_modify] at hx
        dsimp only
        rw [si_1, if_neg (by omega), si_1, if_neg (by omega), si_1, if_neg (by omega), si_1, if_neg (by omega), si_1, if_neg (by omega), si_1]
        by_cases c : n = i
        · subst c
          rw [hs] at hx
          simp at hx
          rw [← hx, if_pos ⟨rfl, rfl⟩]
          have := h10.2 n _ hs
          exact ⟨this.1, this.2.1, this.2.2.1, this.2.2.2.1, this.2.2.2.2.1, rfl⟩
        · simp [c] at hx
          rw [if_neg (by omega)]
          exact h10.2 i x hx
    · rw [wp_ite_f (by rw [show (0 : Int32) = J 0 from rfl, J_lt (by omega) (by omega) (by omega) (by omega)]; omega), wp_some]
      exact hf (fun h => by
        obtain ⟨-, s, h1, h2⟩ := h
        rw [Int.toNat_natCast, hs] at h1
        rw [← Option.some.inj h1] at h2
        exact c3 h2)
  · rw [bi_f c2, wp_ite_t rfl, wp_some]
    exact hf (fun h => by
      obtain ⟨h0, s, h1, h2⟩ := h
      rw [List.getElem?_eq_none (by omega)] at h1; cases h1)
/- copying of eight, five and the pulls, to a box or from it -/
theorem r_im33 (hG : GK Γ) {k : Nat} (hk : k < 3) (K : rhM → Nat → Int32 → Option (Int32 × rhM)) (Q : Int32 × rhM → Prop) : ∀ (d n : Nat) (M : rhM) (j : Nat), MR M → j + d = 8 → d < n →
    (∀ M', Fr [161] M M' → (∀ x, M'.1 161 x = if 8 * k + j ≤ x ∧ x < 8 * k + 8 then M.1 131 (x - 8 * k) else M.1 161 x) → wp (K M' 102 (J k)) Q) → wp (f_X12_image_33 K Γ n M 102 (J k) (J j)) Q := by
  intro d
  induction d with
  | zero =>
    intro n M j hR hj hn hQ
    obtain ⟨n, rfl⟩ : ∃ k, n = k + 1 := ⟨n - 1, by omega⟩
    rw [f_X12_image_33, wp_ite_f (by rw [show (8 : Int32) = J 8 from rfl, J_lt (by omega) (by omega) (by omega) (by omega)]; omega)]
    exact hQ M (Fr.refl _ _) (fun x => by rw [if_neg (by omega)])
  | succ d ih =>
    intro n M j hR hj hn hQ
    obtain ⟨n, rfl⟩ : ∃ k, n = k + 1 := ⟨n - 1, by omega⟩
    rw [f_X12_image_33, wp_ite_t (by rw [show (8 : Int32) = J 8 from rfl, J_lt (by omega) (by omega) (by omega) (by omega)]; omega), wp_ck_t (GKk102 hG), MRf42 hR, wp_ck_t (GKk131 hG), wp_ck_t (by rw [GKl131 hG, J_toInt (by omega) (by omega)]; omega), MRf86 hR, wp_ck_t (GKk161 hG), show (8 : Int32) = J 8 from rfl, J_mul, J_add, show 8 * (k : Int) + j = ((8 * k + j : Nat) : Int) by omega, wp_ck_t (by rw [GKl161 hG, J_toInt (by omega) (by omega)]; omega), J_clamp (a := ((8 * k + j : Nat) : Int)) (by omega) (by omega), J_clamp (a := (j : Int)) (by omega) (by omega), Int.toNat_natCast, Int.toNat_natCast]
    dsimp only
    rw [show (1 : Int32) = J 1 from rfl, J_add, J_suc]
    have hF : Fr [161] M (rhsi M 161 (8 * k + j) (M.1 131 j)) := (Fr.refl _ _).si (by simp) _ _
    refine ih n _ (j + 1) (hR.fr hF) (by omega) (by omega) (fun M' h1 h2 => hQ M' (hF.trans h1) (fun x => ?_))
    simp only [h2, si_1, Nat.reduceEqDiff, false_and, if_false, true_and]
    by_cases e : x = 8 * k + j
    · rw [if_neg (show ¬ (8 * k + (j + 1) ≤ x ∧ x < 8 * k + 8) by omega), if_pos e, if_pos (by omega), e, Nat.add_sub_cancel_left]
    · by_cases e2 : 8 * k + (j + 1) ≤ x ∧ x < 8 * k + 8
      · rw [if_pos e2, if_pos (by omega)]
      · rw [if_neg e2, if_neg e, if_neg (by omega)]
theorem r_im64 (hG : GK Γ) {k : Nat} (hk : k < 3) (K : rhM → Nat → Int32 → Option (Int32 × rhM)) (Q : Int32 × rhM → Prop) : ∀ (d n : Nat) (M : rhM) (j : Nat), MR M → j + d = 5 → d < n →
    (∀ M', Fr [162] M M' → (∀ x, M'.1 162 x = if 6 * k + j ≤ x ∧ x < 6 * k + 5 then M.1 132 (x - 6 * k) else M.1 162 x) → wp (K M' 102 (J k)) Q) → wp (f_X12_image_64 K Γ n M 102 (J k) (J j)) Q := by
  intro d
  induction d with
  | zero =>
    intro n M j hR hj hn hQ
    obtain ⟨n, rfl⟩ : ∃ k, n = k + 1 := ⟨n - 1, by omega⟩
    rw [f_X12_image_64, wp_ite_f (by rw [show (5 : Int32) = J 5 from rfl, J_lt (by omega) (by omega) (by omega) (by omega)]; omega)]
    exact hQ M (Fr.refl _ _) (fun x => by rw [if_neg (by omega)])
  | succ d ih =>
    intro n M j hR hj hn hQ
    obtain ⟨n, rfl⟩ : ∃ k, n = k + 1 := ⟨n - 1, by omega⟩
    rw [f_X12_image_64, wp_ite_t (by rw [show (5 : Int32) = J 5 from rfl, J_lt (by omega) (by omega) (by omega) (by omega)]; omega), wp_ck_t (GKk102 hG), MRf43 hR, wp_ck_t (GKk132 hG), wp_ck_t (by rw [GKl132 hG, J_toInt (by omega) (by omega)]; omega), MRf87 hR, wp_ck_t (GKk162 hG), show (6 : Int32) = J 6 from rfl, J_mul, J_add, show 6 * (k : Int) + j = ((6 * k + j : Nat) : Int) by omega, wp_ck_t (by rw [GKl162 hG, J_toInt (by omega) (by omega)]; omega), J_clamp (a := ((6 * k + j : Nat) : Int)) (by omega) (by omega), J_clamp (a := (j : Int)) (by omega) (by omega), Int.toNat_natCast, Int.toNat_natCast]
    dsimp only
    rw [show (1 : Int32) = J 1 from rfl, J_add, J_suc]
    have hF : Fr [162] M (rhsi M 162 (6 * k + j) (M.1 132 j)) := (Fr.refl _ _).si (by simp) _ _
    refine ih n _ (j + 1) (hR.fr hF) (by omega) (by omega) (fun M' h1 h2 => hQ M' (hF.trans h1) (fun x => ?_))
    simp only [h2, si_1, Nat.reduceEqDiff, false_and, if_false, true_and]
    by_cases e : x = 6 * k + j
    · rw [if_neg (show ¬ (6 * k + (j + 1) ≤ x ∧ x < 6 * k + 5) by omega), if_pos e, if_pos (by omega), e, Nat.add_sub_cancel_left]
    · by_cases e2 : 6 * k + (j + 1) ≤ x ∧ x < 6 * k + 5
      · rw [if_pos e2, if_pos (by omega)]
      · rw [if_neg e2, if_neg e, if_neg (by omega)]
theorem r_im94 (hG : GK Γ) {k N : Nat} (hk : k < 3) (hN : N ≤ 300) (Q : Int32 × rhM → Prop) : ∀ (d n : Nat) (M : rhM) (j : Nat), MR M → M.1 102 48 = J N → j + d = N → d < n →
    (∀ M', Fr [163, 164] M M' → (∀ x, M'.1 163 x = if 300 * k + j ≤ x ∧ x < 300 * k + N then M.1 133 (x - 300 * k) else M.1 163 x) → (∀ x, M'.1 164 x = if 300 * k + j ≤ x ∧ x < 300 * k + N then M.1 134 (x - 300 * k) else M.1 164 x) → Q (J N, M')) → wp (f_X12_image_94 Γ n M 102 (J k) (J j)) Q := by
  intro d
  induction d with
  | zero =>
    intro n M j hR h48 hj hn hQ
    obtain ⟨n, rfl⟩ : ∃ k, n = k + 1 := ⟨n - 1, by omega⟩
    rw [f_X12_image_94, wp_ck_t (GKk102 hG), h48, wp_ite_f (by rw [J_lt (by omega) (by omega) (by omega) (by omega)]; omega), wp_some]
    exact hQ M (Fr.refl _ _) (fun x => by rw [if_neg (by omega)]) (fun x => by rw [if_neg (by omega)])
  | succ d ih =>
    intro n M j hR h48 hj hn hQ
    obtain ⟨n, rfl⟩ : ∃ k, n = k + 1 := ⟨n - 1, by omega⟩
    have hcl : (J ((300 * k + j : Nat) : Int)).toNatClampNeg = 300 * k + j := by rw [J_clamp (by omega) (by omega), Int.toNat_natCast]
    have hcj : (J (j : Int)).toNatClampNeg = j := by rw [J_clamp (by omega) (by omega), Int.toNat_natCast]
    have hr9 : 0 ≤ (J ((300 * k + j : Nat) : Int)).toInt ∧ (J ((300 * k + j : Nat) : Int)).toInt < ((900 : Nat) : Int) := by rw [J_toInt (by omega) (by omega)]; omega
    have hr3 : 0 ≤ (J (j : Int)).toInt ∧ (J (j : Int)).toInt < ((300 : Nat) : Int) := by rw [J_toInt (by omega) (by omega)]; omega
    rw [f_X12_image_94, wp_ck_t (GKk102 hG), h48, wp_ite_t (by rw [J_lt (by omega) (by omega) (by omega) (by omega)]; omega), MRf46 hR, wp_ck_t (GKk133 hG), GKl133 hG, wp_ck_t hr3, MRf88 hR, wp_ck_t (GKk163 hG), show (300 : Int32) = J 300 from rfl, J_mul, J_add, show 300 * (k : Int) + j = ((300 * k + j : Nat) : Int) by omega, GKl163 hG, wp_ck_t hr9, hcl, hcj, MRf47 hR, wp_ck_t (GKk134 hG), GKl134 hG, wp_ck_t hr3, MRf89 hR, wp_ck_t (GKk164 hG), GKl164 hG, wp_ck_t hr9]
    dsimp only
    rw [si_1, if_neg (by omega), show (1 : Int32) = J 1 from rfl, J_add, J_suc]
    have hF : Fr [163, 164] M (rhsi (rhsi M 163 (300 * k + j) (M.1 133 j)) 164 (300 * k + j) (M.1 134 j)) := ((Fr.refl _ _).si (by simp) _ _).si (by simp) _ _
    refine ih n _ (j + 1) (hR.fr hF) (by rw [si_1, if_neg (by omega), si_1, if_neg (by omega)]; exact h48) (by omega) (by omega) (fun M' h1 h2 h3 => hQ M' (hF.trans h1) (fun x => ?_) (fun x => ?_))
    · simp only [h2, si_1, Nat.reduceEqDiff, false_and, if_false, true_and]
      by_cases e : x = 300 * k + j
      · rw [if_neg (show ¬ (300 * k + (j + 1) ≤ x ∧ x < 300 * k + N) by omega), if_pos e, if_pos (by omega), e, Nat.add_sub_cancel_left]
      · by_cases e2 : 300 * k + (j + 1) ≤ x ∧ x < 300 * k + N
        · rw [if_pos e2, if_pos (by omega)]
        · rw [if_neg e2, if_neg e, if_neg (by omega)]
    · simp only [h3, si_1, Nat.reduceEqDiff, false_and, if_false, true_and]
      by_cases e : x = 300 * k + j
      · rw [if_neg (show ¬ (300 * k + (j + 1) ≤ x ∧ x < 300 * k + N) by omega), if_pos e, if_pos (by omega), e, Nat.add_sub_cancel_left]
      · by_cases e2 : 300 * k + (j + 1) ≤ x ∧ x < 300 * k + N
        · rw [if_pos e2, if_pos (by omega)]
        · rw [if_neg e2, if_neg e, if_neg (by omega)]
theorem r_image (hG : GK Γ) (hR : MR M) (hw : TWf T) (h4 : R4 M L) (wL : WA (tR T) (tH T) L) {bn : Bn} (h5 : R5 M bn) (hb : bn.length ≤ 300) {bx : Bx} (h9 : R9 M bx) (hbx : ∀ k x, bx k = some x → BN T (fst T) x.1 x.2 ∧ x.1.length ≤ 300) {z : Int} (z1 : -2147483648 ≤ z) (z2 : z < 2147483648) : wp (f_X12_image Γ M 102 (J z)) (fun r => r.1 = J (imgV bn z) ∧ KP [9] M r.2 ∧ KR M r.2 ∧ R9 r.2 (imgB bx bn L z)) := by
  unfold imgV imgB
  rw [f_X12_image, show (0 : Int32) = J 0 from rfl, show (2 : Int32) = J 2 from rfl, m_isInJ z1 z2 (by omega) (by omega) (by omega) (by omega), wp_bind, wp_some]
  by_cases c : ¬ (0 ≤ z ∧ z ≤ 2)
  · rw [bi_f c, wp_ite_t (show (0 : Int32) = J 0 from rfl), wp_some, if_neg (by omega), if_neg (by omega)]
    exact ⟨rfl, KP.refl _ _, KR.refl _, h9⟩
  have c := Classical.not_not.mp c
  obtain ⟨k, rfl⟩ : ∃ k : Nat, z = k := ⟨z.toNat, by omega⟩
  have hk : k < 3 := by omega
  have hin : 0 ≤ (k : Int) ∧ (k : Int) < 3 := by omega
  rw [bi_t c, wp_ite_f (by decide), wp_ck_t (GKk102 hG), MRf84 hR, wp_ck_t (GKk159 hG), wp_ck_t (by rw [GKl159 hG, J_toInt (by omega) (by omega)]; omega), MRf85 hR, wp_ck_t (GKk160 hG), wp_ck_t (by rw [GKl160 hG, J_toInt (by omega) (by omega)]; omega), J_clamp (by omega) (by omega), Int.toNat_natCast, if_pos hin, if_pos hin, h5.1]
  dsimp only
  rw [si_1, if_neg (by omega), h5.2.1]
  have hF0 : Fr [159, 160] M (rhsi (rhsi M 159 k (J bn.length)) 160 k (J (wsum bn))) := ((Fr.refl _ _).si (by simp) _ _).si (by simp) _ _
  have e59 : ∀ i, (rhsi (rhsi M 159 k (J bn.length)) 160 k (J (wsum bn))).1 159 i = if i = k then J bn.length else M.1 159 i := fun i => by
    rw [si_1, if_neg (by omega), si_1]
    by_cases e : i = k
    · rw [if_pos ⟨rfl, e⟩, if_pos e]
    · rw [if_neg (by omega), if_neg e]
  have e60 : ∀ i, (rhsi (rhsi M 159 k (J bn.length)) 160 k (J (wsum bn))).1 160 i = if i = k then J (wsum bn) else M.1 160 i := fun i => by
    rw [si_1]
    by_cases e : i = k
    · rw [if_pos ⟨rfl, e⟩, if_pos e]
    · rw [if_neg (by omega), if_neg e, si_1, if_neg (by omega)]
  obtain ⟨M0, hM0⟩ : ∃ N, N = rhsi (rhsi M 159 k (J bn.length)) 160 k (J (wsum bn)) := ⟨_, rfl⟩
  rw [← hM0] at hF0 e59 e60 ⊢
  have hR0 := hR.fr hF0
  refine r_im33 hG hk _ _ 8 rhFU M0 0 hR0 (by omega) (by have := FU_big; omega) (fun M1 f1 v1 => ?_)
  rw [f_X12_image_62]
  refine r_im64 hG hk _ _ 5 rhFU M1 0 (hR0.fr f1) (by omega) (by have := FU_big; omega) (fun M2 f2 v2 => ?_)
  rw [f_X12_image_92]
  refine r_im94 (N := bn.length) hG hk hb _ bn.length rhFU M2 0 ((hR0.fr f1).fr f2) (by rw [f2.i (by decide), f1.i (by decide), hF0.i (by decide)]; exact h5.1) (by omega) (by have := FU_big; omega) (fun M3 f3 v3 v4 => ?_)
  have hFF : Fr [159, 160, 161, 162, 163, 164] M M3 := (((hF0.sub (by decide)).trans (f1.sub (by decide))).trans (f2.sub (by decide))).trans (f3.sub (by decide))
  refine ⟨rfl, KP.fr hFF (by decide), KR.fr hFF (by decide), fun j hj => ?_⟩
  have e59 : ∀ i, M3.1 159 i = if i = k then J bn.length else M.1 159 i := fun i => by rw [f3.i (by decide), f2.i (by decide), f1.i (by decide), e59]
  have e60 : ∀ i, M3.1 160 i = if i = k then J (wsum bn) else M.1 160 i := fun i => by rw [f3.i (by decide), f2.i (by decide), f1.i (by decide), e60]
  have e61 : ∀ x, M3.1 161 x = if 8 * k ≤ x ∧ x < 8 * k + 8 then M.1 131 (x - 8 * k) else M.1 161 x := fun x => by rw [f3.i (by decide), f2.i (by decide), v1, hF0.i (by decide), hF0.i (by decide), Nat.add_zero]
  have e62 : ∀ x, M3.1 162 x = if 6 * k ≤ x ∧ x < 6 * k + 5 then M.1 132 (x - 6 * k) else M.1 162 x := fun x => by rw [f3.i (by decide), v2, f1.i (by decide), f1.i (by decide), hF0.i (by decide), hF0.i (by decide), Nat.add_zero]
  have e63 : ∀ x, M3.1 163 x = if 300 * k ≤ x ∧ x < 300 * k + bn.length then M.1 133 (x - 300 * k) else M.1 163 x := fun x => by rw [v3, f2.i (by decide), f2.i (by decide), f1.i (by decide), f1.i (by decide), hF0.i (by decide), hF0.i (by decide), Nat.add_zero]
  have e64 : ∀ x, M3.1 164 x = if 300 * k ≤ x ∧ x < 300 * k + bn.length then M.1 134 (x - 300 * k) else M.1 164 x := fun x => by rw [v4, f2.i (by decide), f2.i (by decide), f1.i (by decide), f1.i (by decide), hF0.i (by decide), hF0.i (by decide), Nat.add_zero]
  have h8 : (fl [] L).length ≤ 8 := by rw [wL.len]; exact hw.2.1
  have hl5 : L.length ≤ 5 := by rw [wL.1]; exact hw.1
  dsimp only
  rw [e59, e60]
  by_cases cj : j = k
  · subst cj
    rw [if_pos rfl, if_pos rfl]
    refine ⟨fun hx => (by cases hx), fun x hx => ?_⟩
    rw [← Option.some.inj hx]
    refine ⟨rfl, if_pos rfl, h4.cp h8 hl5 (fun i hi => ?_) (fun i hi => ?_), ?_, ?_⟩
    · rw [e61, if_pos (by omega), Nat.add_sub_cancel_left, Nat.zero_add]
    · rw [e62, if_pos (by omega), Nat.add_sub_cancel_left, Nat.zero_add]
    · refine Sg_shift (300 * j) _ 0 (fun i hi => ?_) h5.2.2.1
      rw [bcd_len] at hi
      dsimp only at hi
      rw [e63, if_pos (by omega), Nat.add_sub_cancel_left, Nat.zero_add]
    · refine Sg_shift (300 * j) _ 0 (fun i hi => ?_) h5.2.2.2
      rw [bwt_len] at hi
      dsimp only at hi
      rw [e64, if_pos (by omega), Nat.add_sub_cancel_left, Nat.zero_add]
  · rw [if_neg cj, if_neg cj, if_neg cj]
    refine ⟨(h9 j hj).1, fun x hx => ?_⟩
    obtain ⟨y1, y2, y3, y4, y5⟩ := (h9 j hj).2 x hx
    obtain ⟨hB, hlb⟩ := hbx j x hx
    have wX := BN_WA hw hB
    have h8x : (fl [] x.2).length ≤ 8 := by rw [wX.len]; exact hw.2.1
    have hl5x : x.2.length ≤ 5 := by rw [wX.1]; exact hw.1
    refine ⟨y1, y2, y3.cp h8x hl5x (fun i hi => ?_) (fun i hi => ?_), Sg_cong _ _ (fun i i1 i2 => ?_) y4, Sg_cong _ _ (fun i i1 i2 => ?_) y5⟩
    · rw [e61, if_neg (by omega)]
    · rw [e62, if_neg (by omega)]
    · rw [bcd_len] at i2; rw [e63, if_neg (by omega)]
    · rw [bwt_len] at i2; rw [e64, if_neg (by omega)]
end
