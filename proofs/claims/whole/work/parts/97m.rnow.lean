/-! REFERENCE: CALLS ON THE STAND -/
section
variable {Γ : rhG} {M : rhM} {T : Tn} {L : Ar}
theorem m_isRailJ {b : Nat} {g lb : Int} (hG : GK Γ) (hR : MR M) (hT : TM M b T g lb) (hw : TWf T) {z : Int} (z1 : -2147483648 ≤ z) (z2 : z < 2147483648) : f_X12_isRail Γ M 102 (J z) = some (bi (0 ≤ z ∧ z < tR T)) := by
  rw [m_isRail hG hR hT hw, J_toInt (by omega) (by omega)]
  by_cases c : 0 ≤ z ∧ z < tR T
  · rw [bi_t c, if_pos c]
  · rw [bi_f c, if_neg c]
theorem m_isHouseJ {b : Nat} {g lb : Int} (hG : GK Γ) (hR : MR M) (hT : TM M b T g lb) (hw : TWf T) {z : Int} (z1 : -2147483648 ≤ z) (z2 : z < 2147483648) : f_X12_isHouse Γ M 102 (J z) = some (bi (0 ≤ z ∧ z < tH T)) := by
  have w2 := hw.2.1
  rw [f_X12_isHouse, rhck_t (GKk102 hG), m_houseMany hG hR hT, Option.bind_some, show (0 : Int32) = J 0 from rfl, show (1 : Int32) = J 1 from rfl, J_sub, m_isInJ z1 z2 (by omega) (by omega) (by omega) (by omega), Option.bind_some, rhck_t (show bi (0 ≤ z ∧ z ≤ (tH T : Int) - 1) = J 0 ∨ bi (0 ≤ z ∧ z ≤ (tH T : Int) - 1) = J 1 from bi_01 _)]
  congr 1
  by_cases c : 0 ≤ z ∧ z < tH T
  · rw [bi_t c, bi_t (by omega)]
  · rw [bi_f c, bi_f (by omega)]
theorem r_lay (hG : GK Γ) (hR : MR M) (h4 : R4 M L) (hw : TWf T) (wL : WA (tR T) (tH T) L) : wp (f_X12_layNow Γ M 102) (fun M' => KP [0] M M' ∧ KR M M' ∧ RA M' 128 0 129 0 L) := by
  refine (m_layNow hG hR h4 (by rw [wL.len]; exact hw.2.1) (by rw [wL.1]; exact hw.1)).mono (fun M' h => ?_)
  exact ⟨KP.fr h.1 (by decide), KR.fr h.1 (by decide), h.2⟩
theorem r_law (hG : GK Γ) (hR : MR M) (h3 : R3 M T) (hw : TWf T) (hA : RA M 128 0 129 0 L) (wL : WA (tR T) (tH T) L) {a : Int} (a1 : -2147483648 ≤ a) (a2 : a < 2147483648) {m : Int} (m1 : -2147483648 ≤ m) (m2 : m < 2147483648) {b : Int} (b1 : -2147483648 ≤ b) (b2 : b < 2147483648) : wp (f_X12_isLawful Γ M 102 (J a) (J m) (J b)) (fun r => r.1 = bi (okZ T L a m b) ∧ Fr [127] M r.2) := by
  obtain ⟨bk, lb, hT⟩ := h3
  refine (m_isLawful hG hR hT hw hA wL (J a) (J m) (J b)).mono (fun r hr => ?_)
  rw [J_toInt a1 a2, J_toInt m1 m2, J_toInt b1 b2] at hr
  exact hr
theorem r_can (hG : GK Γ) (hR : MR M) (h3 : R3 M T) (hw : TWf T) (hA : RA M 128 0 129 0 L) (wL : WA (tR T) (tH T) L) {a : Int} (a1 : -2147483648 ≤ a) (a2 : a < 2147483648) {m : Int} (m1 : -2147483648 ≤ m) (m2 : m < 2147483648) {b : Int} (b1 : -2147483648 ≤ b) (b2 : b < 2147483648) : f_X12_canBe Γ M 102 (J a) (J m) (J b) = some (bi (canZ T L a m b)) := by
  obtain ⟨bk, lb, hT⟩ := h3
  have := m_canBe hG hR hT hw hA wL (J a) (J m) (J b)
  rw [J_toInt a1 a2, J_toInt m1 m2, J_toInt b1 b2] at this
  exact this
theorem KP_127 {M' : rhM} (hF : Fr [127] M M') : KP [0] M M' := KP.fr hF (by decide)
theorem r_room (hG : GK Γ) (hR : MR M) (h3 : R3 M T) (hw : TWf T) (h4 : R4 M L) (wL : WA (tR T) (tH T) L) {z : Int} (z1 : -2147483648 ≤ z) (z2 : z < 2147483648) : wp (f_X12_room Γ M 102 (J z)) (fun r => r.1 = J (roomV T L z) ∧ KP [0] M r.2 ∧ KR M r.2) := by
  have w1 := hw.1
  obtain ⟨bk, lb, hT⟩ := id h3
  unfold roomV
  rw [f_X12_room, wp_ck_t (GKk102 hG), m_isRailJ hG hR hT hw z1 z2, wp_bind, wp_some]
  by_cases c : 0 ≤ z ∧ z < tR T
  · rw [bi_t c, wp_ite_f (by decide), if_pos c, wp_bind]
    obtain ⟨n, rfl⟩ : ∃ n : Nat, z = n := ⟨z.toNat, by omega⟩
    refine (r_lay hG hR h4 hw wL).mono (fun M1 h1 => ?_)
    obtain ⟨bk1, lb1, hT1⟩ := h3.kp h1.1 (by decide)
    rw [m_roomOn hG (hR.kp h1.1 (by decide)) hT1 hw h1.2.2 wL (by omega), wp_bind, wp_some, wp_some]
    exact ⟨rfl, h1.1, h1.2.1⟩
  · rw [bi_f c, wp_ite_t rfl, wp_some, if_neg c]
    exact ⟨rfl, KP.refl _ _, KR.refl _⟩
theorem r_asked (hG : GK Γ) (hR : MR M) (h3 : R3 M T) (hw : TWf T) (h4 : R4 M L) (wL : WA (tR T) (tH T) L) {a : Int} (a1 : -2147483648 ≤ a) (a2 : a < 2147483648) {m : Int} (m1 : -2147483648 ≤ m) (m2 : m < 2147483648) {b : Int} (b1 : -2147483648 ≤ b) (b2 : b < 2147483648) : wp (f_X12_asked Γ M 102 (J a) (J m) (J b)) (fun r => r.1 = askV T L a m b ∧ KP [0] M r.2 ∧ KR M r.2) := by
  unfold askV
  rw [f_X12_asked, wp_ck_t (GKk102 hG), wp_bind]
  refine (r_lay hG hR h4 hw wL).mono (fun M1 h1 => ?_)
  have hR1 := hR.kp h1.1 (by decide)
  have h31 := h3.kp h1.1 (by decide)
  rw [r_can hG hR1 h31 hw h1.2.2 wL a1 a2 m1 m2 b1 b2, wp_bind, wp_some]
  by_cases c : canZ T L a m b
  · rw [bi_t c, wp_ite_f (by decide), pick_t c]
    obtain ⟨f, k, q, rfl, rfl, rfl, hc⟩ := canZ_nat c
    obtain ⟨bk1, lb1, hT1⟩ := h31
    rw [wp_bind]
    refine (m_comes hG hR1 hT1 hw h1.2.2 wL hc.1 hc.2.1 hc.2.2.2.2).mono (fun r hr => ?_)
    rw [wp_some]
    exact ⟨hr.1, h1.1.trans (KP_127 hr.2), h1.2.1.trans (KR.fr hr.2 (by decide))⟩
  · rw [bi_f c, wp_ite_t rfl, wp_some, pick_f c]
    exact ⟨rfl, h1.1, h1.2.1⟩
theorem r_lawful (hG : GK Γ) (hR : MR M) (h3 : R3 M T) (hw : TWf T) (h4 : R4 M L) (wL : WA (tR T) (tH T) L) {a : Int} (a1 : -2147483648 ≤ a) (a2 : a < 2147483648) {m : Int} (m1 : -2147483648 ≤ m) (m2 : m < 2147483648) {b : Int} (b1 : -2147483648 ≤ b) (b2 : b < 2147483648) : wp (f_X12_lawful Γ M 102 (J a) (J m) (J b)) (fun r => r.1 = bi (okZ T L a m b) ∧ KP [0] M r.2 ∧ KR M r.2) := by
  rw [f_X12_lawful, wp_ck_t (GKk102 hG), wp_bind]
  refine (r_lay hG hR h4 hw wL).mono (fun M1 h1 => ?_)
  rw [wp_bind]
  refine (r_law hG (hR.kp h1.1 (by decide)) (h3.kp h1.1 (by decide)) hw h1.2.2 wL a1 a2 m1 m2 b1 b2).mono (fun r hr => ?_)
  have hk := h1.1.trans (KP_127 hr.2)
  have hkr := h1.2.1.trans (KR.fr hr.2 (by decide))
  rcases bi_01 (okZ T L a m b) with h | h
  · rw [wp_ite_t (by rw [hr.1, h]), wp_some, h]; exact ⟨rfl, hk, hkr⟩
  · rw [wp_ite_f (by rw [hr.1, h]; decide), wp_some, h]; exact ⟨rfl, hk, hkr⟩
theorem r_worth (hG : GK Γ) (hR : MR M) (h3 : R3 M T) (hw : TWf T) (h4 : R4 M L) (wL : WA (tR T) (tH T) L) : wp (f_X12_worth Γ M 102) (fun r => r.1 = J (worth T L) ∧ KP [0] M r.2 ∧ KR M r.2) := by
  rw [f_X12_worth, wp_ck_t (GKk102 hG), wp_bind]
  refine (r_lay hG hR h4 hw wL).mono (fun M1 h1 => ?_)
  obtain ⟨bk1, lb1, hT1⟩ := h3.kp h1.1 (by decide)
  rw [m_worth hG (hR.kp h1.1 (by decide)) hT1 hw h1.2.2 wL, wp_bind, wp_some, wp_some]
  exact ⟨rfl, h1.1, h1.2.1⟩
theorem r_on (hG : GK Γ) (hR : MR M) (h3 : R3 M T) (hw : TWf T) (h4 : R4 M L) (wL : WA (tR T) (tH T) L) {a : Int} (a1 : -2147483648 ≤ a) (a2 : a < 2147483648) {i : Int} (i1 : -2147483648 ≤ i) (i2 : i < 2147483648) : f_X12_on Γ M 102 (J a) (J i) = some (J (onV L a i)) := by
  have w1 := hw.1
  have w2 := hw.2.1
  obtain ⟨bk, lb, hT⟩ := id h3
  unfold onV
  rw [wL.1, f_X12_on, rhck_t (GKk102 hG), m_isRailJ hG hR hT hw a1 a2, Option.bind_some]
  by_cases c : 0 ≤ a ∧ a < tR T
  · obtain ⟨n, rfl⟩ : ∃ n : Nat, a = n := ⟨a.toNat, by omega⟩
    have hn : n < tR T := by omega
    have hl := wL.rl_len hn
    have hend : M.1 132 n = J (cum L (n + 1)) := by have := h4.2 n (by rw [wL.1]; exact hn); rw [Nat.zero_add] at this; exact this
    have hcum := wL.le (r := n + 1) (by omega)
    have hcs := cum_succ L n
    rw [bi_t c, if_neg (by decide), MRf43 hR, rhck_t (GKk132 hG), rhck_t (by rw [GKl132 hG, J_toInt (by omega) (by omega)]; omega), Int.toNat_natCast]
    have h32 : ∀ s3 : Nat, s3 = cum L n → f_X12_on_32 Γ M 102 (J n) (J i) (J i) 0 (M.1 132 n) (J s3) = some (J (if 0 ≤ (n : Int) ∧ (n : Int) < tR T ∧ 0 ≤ i ∧ i < (rl L n).length then ((rl L n).getD i.toNat 0 : Nat) else -1)) := by
      intro s3 hs3
      rw [f_X12_on_32, hend, show (0 : Int32) = J 0 from rfl, show (1 : Int32) = J 1 from rfl, J_sub, J_sub, m_isInJ i1 i2 (by omega) (by omega) (by omega) (by omega), Option.bind_some]
      by_cases c2 : 0 ≤ i ∧ i < (rl L n).length
      · obtain ⟨k, rfl⟩ : ∃ k : Nat, i = k := ⟨i.toNat, by omega⟩
        have hk : k < (rl L n).length := by omega
        have hrow : M.1 131 (cum L n + k) = J ((rl L n).getD k 0) := by
          have := Sg_get (i := k) (Sg_rl h4.1 (show n < L.length by rw [wL.1]; exact hn)) hk
          rw [Nat.zero_add] at this; exact this
        rw [bi_t (by omega), if_neg (by decide), rhck_t (GKk102 hG), if_pos (show 0 ≤ (n : Int) ∧ (n : Int) < tR T ∧ 0 ≤ (k : Int) ∧ (k : Int) < (rl L n).length by omega), Int.toNat_natCast]
        by_cases c3 : n = 0
        · have hc0 : cum L n = 0 := by rw [c3]; rfl
          rw [hc0, Nat.zero_add] at hrow
          rw [if_pos (by rw [c3]; rfl), MRf42 hR, rhck_t (GKk131 hG), J_add, show (0 : Int) + k = (k : Nat) by omega, rhck_t (by rw [GKl131 hG, J_toInt (by omega) (by omega)]; omega), J_clamp (by omega) (by omega), Int.toNat_natCast, hrow]
        · have he1 : M.1 132 (n - 1) = J (cum L n) := by
            have := h4.2 (n - 1) (by rw [wL.1]; omega)
            rw [Nat.zero_add, show n - 1 + 1 = n by omega] at this; exact this
          rw [if_neg (by rw [J_eq (by omega) (by omega) (by omega) (by omega)]; omega), MRf43 hR, rhck_t (GKk132 hG), J_sub, show (n : Int) - 1 = ((n - 1 : Nat) : Int) by omega, rhck_t (by rw [GKl132 hG, J_toInt (by omega) (by omega)]; omega), MRf42 hR, rhck_t (GKk131 hG), J_clamp (a := ((n - 1 : Nat) : Int)) (by omega) (by omega), Int.toNat_natCast, he1, J_add, show (cum L n : Int) + k = ((cum L n + k : Nat) : Int) by omega, rhck_t (by rw [GKl131 hG, J_toInt (by omega) (by omega)]; omega), J_clamp (by omega) (by omega), Int.toNat_natCast, hrow]
      · rw [bi_f (by omega), if_pos (show (0 : Int32) = J 0 from rfl), if_neg (by omega)]; rfl
    by_cases c3 : n = 0
    · rw [if_pos (by rw [c3]; rfl), J_clamp (a := (n : Int)) (by omega) (by omega), Int.toNat_natCast]
      exact h32 0 (by rw [c3]; rfl)
    · have he1 : M.1 132 (n - 1) = J (cum L n) := by
        have := h4.2 (n - 1) (by rw [wL.1]; omega)
        rw [Nat.zero_add, show n - 1 + 1 = n by omega] at this; exact this
      rw [if_neg (by rw [show (0 : Int32) = J 0 from rfl, J_eq (by omega) (by omega) (by omega) (by omega)]; omega), show (1 : Int32) = J 1 from rfl, J_sub, show (n : Int) - 1 = ((n - 1 : Nat) : Int) by omega, rhck_t (by rw [GKl132 hG, J_toInt (by omega) (by omega)]; omega), J_clamp (a := (n : Int)) (by omega) (by omega), J_clamp (a := ((n - 1 : Nat) : Int)) (by omega) (by omega), Int.toNat_natCast, Int.toNat_natCast, he1]
      exact h32 _ rfl
  · rw [bi_f c, if_pos rfl, if_neg (by omega)]; rfl
theorem r_wh28 (hG : GK Γ) (hR : MR M) (hA : Sg (M.1 128) 0 (fl [] L)) {H p h : Nat} (hH : (fl [] L).length ≤ 8) (hl : ∀ x, x ∈ fl [] L → x < 8) (hh : h < 8) (hp : p < (fl [] L).length) (e : (fl [] L).getD p 0 = h) (hne : ∀ p', p' < p → (fl [] L).getD p' 0 ≠ h) (K : rhM → Nat → Int32 → Int32 → Int32 → Option (Int32 × rhM)) (w x : Int32) : ∀ (d n k : Nat), k + d = p → d < n → f_X12_where_28 K Γ n M 102 (J h) w x (J k) = K M 102 w x (J p) := by
  intro d
  induction d with
  | zero =>
    intro n k hk hn
    obtain ⟨n, rfl⟩ : ∃ k, n = k + 1 := ⟨n - 1, by omega⟩
    have hg := Sg_get (i := k) hA (by omega)
    rw [Nat.zero_add] at hg
    rw [f_X12_where_28, rhck_t (GKk102 hG), MRf39 hR, rhck_t (GKk128 hG), rhck_t (by rw [GKl128 hG, J_toInt (by omega) (by omega)]; omega), J_clamp (by omega) (by omega), Int.toNat_natCast, hg, show k = p by omega, e, if_pos rfl]
  | succ d ih =>
    intro n k hk hn
    obtain ⟨n, rfl⟩ : ∃ k, n = k + 1 := ⟨n - 1, by omega⟩
    have hg := Sg_get (i := k) hA (by omega)
    rw [Nat.zero_add] at hg
    have h1 := hl _ (gd_mem 0 (show k < (fl [] L).length by omega))
    have h2 := hne k (by omega)
    rw [f_X12_where_28, rhck_t (GKk102 hG), MRf39 hR, rhck_t (GKk128 hG), rhck_t (by rw [GKl128 hG, J_toInt (by omega) (by omega)]; omega), J_clamp (by omega) (by omega), Int.toNat_natCast, hg, if_neg (by rw [J_eq (by omega) (by omega) (by omega) (by omega)]; omega)]
    dsimp only
    rw [show (1 : Int32) = J 1 from rfl, J_add, J_suc]
    exact ih n (k + 1) (by omega) (by omega)
theorem r_wh45 (hG : GK Γ) (hR : MR M) (hA : RA M 128 0 129 0 L) {q p : Nat} (hq : q < L.length) (hL : L.length ≤ 5) (h8 : (fl [] L).length ≤ 8) (h1 : cum L q ≤ p) (h2 : p < cum L (q + 1)) (K : rhM → Nat → Int32 → Int32 → Int32 → Option (Int32 × rhM)) (w : Int32) : ∀ (d n k : Nat), k + d = q → d < n → f_X12_where_45 K Γ n M 102 w (J k) (J p) = K M 102 w (J q) (J p) := by
  have hc8 : ∀ r, r ≤ L.length → cum L r ≤ 8 := fun r hr => by have := cum_mono L hr; rw [fl_len0] at h8; omega
  have hcq := hc8 (q + 1) (by omega)
  intro d
  induction d with
  | zero =>
    intro n k hk hn
    obtain ⟨n, rfl⟩ : ∃ k, n = k + 1 := ⟨n - 1, by omega⟩
    have he := hA.2 k (by omega)
    have := hc8 (k + 1) (by omega)
    rw [Nat.zero_add] at he
    rw [f_X12_where_45, rhck_t (GKk102 hG), MRf40 hR, rhck_t (GKk129 hG), rhck_t (by rw [GKl129 hG, J_toInt (by omega) (by omega)]; omega), J_clamp (by omega) (by omega), Int.toNat_natCast, he, if_pos (by rw [J_lt (by omega) (by omega) (by omega) (by omega), show k = q by omega]; omega), show k = q by omega]
  | succ d ih =>
    intro n k hk hn
    obtain ⟨n, rfl⟩ : ∃ k, n = k + 1 := ⟨n - 1, by omega⟩
    have he := hA.2 k (by omega)
    have h3 := hc8 (k + 1) (by omega)
    have h4 := hc8 (q + 1) (by omega)
    have hm := cum_mono L (show k + 1 ≤ q by omega)
    rw [Nat.zero_add] at he
    rw [f_X12_where_45, rhck_t (GKk102 hG), MRf40 hR, rhck_t (GKk129 hG), rhck_t (by rw [GKl129 hG, J_toInt (by omega) (by omega)]; omega), J_clamp (by omega) (by omega), Int.toNat_natCast, he, if_neg (by rw [J_lt (by omega) (by omega) (by omega) (by omega)]; omega)]
    dsimp only
    rw [show (1 : Int32) = J 1 from rfl, J_add, J_suc]
    exact ih n (k + 1) (by omega) (by omega)
theorem r_where (hG : GK Γ) (hR : MR M) (h3 : R3 M T) (hw : TWf T) (h4 : R4 M L) (wL : WA (tR T) (tH T) L) {h : Int} (h1 : -2147483648 ≤ h) (h2 : h < 2147483648) {w : Int} (w1 : -2147483648 ≤ w) (w2 : w < 2147483648) : wp (f_X12_where Γ M 102 (J h) (J w)) (fun r => r.1 = J (whV L (tH T) h w) ∧ KP [0] M r.2 ∧ KR M r.2) := by
  have w1' := hw.1
  have w2' := hw.2.1
  obtain ⟨bk, lb, hT⟩ := id h3
  unfold whV
  rw [f_X12_where, wp_ck_t (GKk102 hG), m_isHouseJ hG hR hT hw h1 h2, wp_bind, wp_some]
  by_cases c : 0 ≤ h ∧ h < tH T
  · rw [bi_t c, wp_ite_f (by decide), show (0 : Int32) = J 0 from rfl, show (1 : Int32) = J 1 from rfl, m_isInJ w1 w2 (by omega) (by omega) (by omega) (by omega), wp_bind, wp_some]
    by_cases c2 : 0 ≤ w ∧ w ≤ 1
    · rw [bi_t c2, wp_ite_f (by decide), if_pos (by omega), wp_bind]
      obtain ⟨n, rfl⟩ : ∃ n : Nat, h = n := ⟨h.toNat, by omega⟩
      rw [Int.toNat_natCast]
      obtain ⟨q, i, hq, hi, e, e1, e2⟩ := rlO_ex wL (h := n) (by omega)
      refine (r_lay hG hR h4 hw wL).mono (fun M1 y => ?_)
      obtain ⟨y1, y2, y3⟩ := y
      have hR1 := hR.kp y1 (by decide)
      have hqL : q < L.length := by rw [wL.1]; exact hq
      have hL5 : L.length = tR T := wL.1
      have hcs := cum_succ L q
      have hle := wL.le (r := q + 1) (by omega)
      have hlen : (fl [] L).length = tH T := wL.len
      have nd : (fl [] L).Nodup := wL.2.nodup_iff.mpr List.nodup_range
      have hp : cum L q + i < (fl [] L).length := by omega
      have ep : (fl [] L).getD (cum L q + i) 0 = n := by rw [fl_get0 hi, e]
      have e28 := r_wh28 (H := 0) hG hR1 y3.1 (p := cum L q + i) (h := n) (by omega) (fun x hx => by have := wL.lt.mp hx; omega) (by omega) hp ep (fun p' hp' he => by
        rw [← ep, gd_el _ hp, gd_el _ (show p' < _ by omega)] at he
        have := (List.getElem_inj nd).mp he
        omega) (f_X12_where_45 (f_X12_where_62 Γ) Γ rhFU) (J w) (J 0) (cum L q + i) rhFU 0 (by omega) (by have := FU_big; omega)
      have e45 := r_wh45 hG hR1 y3 (q := q) (p := cum L q + i) hqL (by omega) (by omega) (by omega) (by omega) (f_X12_where_62 Γ) (J w) q rhFU 0 (by omega) (by have := FU_big; omega)
      rw [show ((0 : Nat) : Int) = 0 from rfl] at e28 e45
      rw [e28, e45, f_X12_where_62, e1, e2]
      by_cases c3 : w = 0
      · rw [wp_ite_t (by rw [c3]; rfl), wp_some, if_pos c3]
        exact ⟨rfl, y1, y2⟩
      · rw [wp_ite_f (by rw [show (0 : Int32) = J 0 from rfl, J_eq (by omega) (by omega) (by omega) (by omega)]; exact c3), wp_ck_t (GKk102 hG), m_beginOf hG hR1 y3 (r := q) (by omega) (by omega), wp_bind, wp_some, wp_some, if_neg c3, J_sub]
        exact ⟨by dsimp only; congr 1; omega, y1, y2⟩
    · rw [bi_f c2, wp_ite_t (show (0 : Int32) = J 0 from rfl), wp_some, if_neg (by omega)]
      exact ⟨rfl, KP.refl _ _, KR.refl _⟩
  · rw [bi_f c, wp_ite_t rfl, wp_some, if_neg (by omega)]
    exact ⟨rfl, KP.refl _ _, KR.refl _⟩
theorem r_moves (hG : GK Γ) (hR : MR M) (hw : TWf T) (hA : RA M 128 0 129 0 L) (wL : WA (tR T) (tH T) L) {f m t : Nat} (hc : canB T L f m t) : wp (f_X12_moves Γ M 102 (J f) (J m) (J t)) (fun M' => KP [0] M M' ∧ KR M M' ∧ RA M' 128 0 129 0 (mv L f m t)) := by
  refine (m_moves hG hR hw.1 hw.2.1 hA wL hc.1 hc.2.1 hc.2.2.1 hc.2.2.2.1 hc.2.2.2.2).mono (fun M' h => ?_)
  exact ⟨KP.fr h.1 (by decide), KR.fr h.1 (by decide), h.2⟩
theorem r_keep (hG : GK Γ) (hR : MR M) (hw : TWf T) (hA : RA M 128 0 129 0 L) (wL : WA (tR T) (tH T) L) : wp (f_X12_keepNow Γ M 102) (fun M' => KP [4] M M' ∧ KR M M' ∧ R4 M' L) := by
  refine (m_keepNow hG hR hA (by rw [wL.len]; exact hw.2.1) (by rw [wL.1]; exact hw.1)).mono (fun M' h => ?_)
  exact ⟨KP.fr h.1 (by decide), KR.fr h.1 (by decide), h.2⟩
theorem r_sumW (hG : GK Γ) (hR : MR M) (h3 : R3 M T) (hw : TWf T) (hA : RA M 128 0 129 0 L) (wL : WA (tR T) (tH T) L) {f m : Nat} (hf : f < tR T) (hm : m ≤ (rl L f).length) : f_X12_sumOf Γ M 102 114 (J f) (J m) = some (J (sm (tw T) (sg L f m))) := by
  obtain ⟨bk, lb, hT⟩ := h3
  have hT' := hT
  obtain ⟨hb, e34, e105, e106, e109, e110, e108, e119, e111, e44, e45, g1, g2, l1, l2, e112, e113, e114, e115, e116, e123, e124⟩ := hT
  exact m_sumOf hG hR hT' hw hA wL e114 (GKk114 hG) (GKl114 hG) hf hm
theorem r_pull (hG : GK Γ) (hR : MR M) (h3 : R3 M T) (hw : TWf T) (h4 : R4 M L) (wL : WA (tR T) (tH T) L) {bn : Bn} (h5 : R5 M bn) (hb : bn.length ≤ 300) {a : Int} (a1 : -2147483648 ≤ a) (a2 : a < 2147483648) {m : Int} (m1 : -2147483648 ≤ m) (m2 : m < 2147483648) {b : Int} (b1 : -2147483648 ≤ b) (b2 : b < 2147483648) : wp (f_X12_pull Γ M 102 (J a) (J m) (J b)) (fun r => KP [0, 4, 5] M r.2 ∧ KR M r.2 ∧
    (pulOK T L bn a m b → r.1 = J (wtA T L (a.toNat, m.toNat, b.toNat)) ∧ R4 r.2 (mvA L (a.toNat, m.toNat, b.toNat)) ∧ R5 r.2 (((a.toNat, m.toNat, b.toNat), wtA T L (a.toNat, m.toNat, b.toNat)) :: bn)) ∧ (¬ pulOK T L bn a m b → r.1 = J (-1) ∧ R4 r.2 L ∧ R5 r.2 bn)) := by
  have w1 := hw.1
  have w2 := hw.2.1
  rw [f_X12_pull, wp_ck_t (GKk102 hG), wp_bind]
  refine (r_lay hG hR h4 hw wL).mono (fun M1 y => ?_)
  obtain ⟨y1, y2, y3⟩ := y
  have hR1 := hR.kp y1 (by decide)
  have h31 := h3.kp y1 (by decide)
  have h41 := h4.kp y1 (by decide)
  have h51 := h5.kp y1 (by decide)
  rw [h51.1]
  by_cases c0 : bn.length = 300
  · rw [wp_ite_t (by rw [c0]; rfl), wp_some]
    exact ⟨y1.sub (by decide), y2, fun h => by have := h.2; omega, fun _ => ⟨rfl, h41, h51⟩⟩
  rw [wp_ite_f (by rw [show (300 : Int32) = J 300 from rfl, J_eq (by omega) (by omega) (by omega) (by omega)]; omega), wp_bind]
  refine (r_law hG hR1 h31 hw y3 wL a1 a2 m1 m2 b1 b2).mono (fun r hr => ?_)
  obtain ⟨v1, M2⟩ := r
  obtain ⟨hv, hF⟩ := hr
  dsimp only at hv hF ⊢
  have k2 : KP [0] M M2 := y1.trans (KP_127 hF)
  have r2 : KR M M2 := y2.trans (KR.fr hF (by decide))
  have hR2 := hR.kp k2 (by decide)
  have h32 := h3.kp k2 (by decide)
  have h42 := h4.kp k2 (by decide)
  have h52 := h5.kp k2 (by decide)
  have hA2 := y3.fr hF (by decide) (by decide)
  by_cases c : okZ T L a m b
  · rw [hv, bi_t c, wp_ite_f (by decide)]
    obtain ⟨f, k, q, rfl, rfl, rfl, hc⟩ := canZ_nat (okZ_can c)
    have hcl : KP [5] M2 (rhsi (rhsi (rhsi (rhsi M2 134 bn.length (J (sm (tw T) (sg L f k)))) 102 49 (J ((wsum bn : Int) + sm (tw T) (sg L f k)))) 133 bn.length (J (cdT (f, k, q)))) 102 48 (J ((bn.length : Int) + 1))) := ((((KP.refl _ _).si _ (by rw [idc_cell (by decide) (by decide) (by decide)]; decide)).si _ (by decide)).si _ (by rw [idc_cell (by decide) (by decide) (by decide)]; decide)).si _ (by decide)
    have hcr : KR M2 (rhsi (rhsi (rhsi (rhsi M2 134 bn.length (J (sm (tw T) (sg L f k)))) 102 49 (J ((wsum bn : Int) + sm (tw T) (sg L f k)))) 133 bn.length (J (cdT (f, k, q)))) 102 48 (J ((bn.length : Int) + 1))) := ((((KR.refl _).si _ (by decide)).si _ (by decide)).si _ (by decide)).si _ (by decide)
    have hn5 : R5 (rhsi (rhsi (rhsi (rhsi M2 134 bn.length (J (sm (tw T) (sg L f k)))) 102 49 (J ((wsum bn : Int) + sm (tw T) (sg L f k)))) 133 bn.length (J (cdT (f, k, q)))) 102 48 (J ((bn.length : Int) + 1))) (((f, k, q), sm (tw T) (sg L f k)) :: bn) := by
      refine ⟨by rw [si_1, if_pos ⟨rfl, rfl⟩]; rfl, ?_, ?_, ?_⟩
      · rw [si_1, if_neg (by omega), si_1, if_neg (by omega), si_1, if_pos ⟨rfl, rfl⟩, wsum_cons]; congr 1; push_cast; omega
      · rw [bcd_cons]
        refine Sg_push h52.2.2.1 (fun i hi => ?_) ?_
        · rw [bcd_len] at hi
          rw [si_1, if_neg (by omega), si_1, if_neg (by omega), si_1, if_neg (by omega), si_1, if_neg (by omega)]
        · rw [bcd_len, si_1, if_neg (by omega), si_1, if_pos ⟨rfl, rfl⟩]
      · rw [bwt_cons]
        refine Sg_push h52.2.2.2 (fun i hi => ?_) ?_
        · rw [bwt_len] at hi
          rw [si_1, if_neg (by omega), si_1, if_neg (by omega), si_1, if_neg (by omega), si_1, if_neg (by omega)]
        · rw [bwt_len, si_1, if_neg (by omega), si_1, if_neg (by omega), si_1, if_neg (by omega), si_1, if_pos ⟨rfl, rfl⟩]
    have hcla : (J bn.length).toNatClampNeg = bn.length := by rw [J_clamp (by omega) (by omega), Int.toNat_natCast]
    have hrng : 0 ≤ (J bn.length).toInt ∧ (J bn.length).toInt < ((300 : Nat) : Int) := by rw [J_toInt (by omega) (by omega)]; omega
    rw [MRf20 hR2, r_sumW hG hR2 h32 hw hA2 wL hc.1 hc.2.2.2.2, wp_bind, wp_some, MRf47 hR2, MRf46 hR2, wp_ck_t (GKk134 hG), GKl134 hG, h52.1, wp_ck_t hrng]
    simp only [si_1, Nat.reduceEqDiff, false_and, and_false, if_false, h52.1, hcla, true_and, if_true, h52.2.1, GKl133 hG]
    rw [wp_ck_t hrng, wp_ck_t (GKk133 hG), wp_ck_t hrng, J_add, c_codeE, show (1 : Int32) = J 1 from rfl, J_add, wp_bind]
    obtain ⟨M3, hM3⟩ : ∃ N, N = rhsi (rhsi (rhsi (rhsi M2 134 bn.length (J (sm (tw T) (sg L f k)))) 102 49 (J ((wsum bn : Int) + sm (tw T) (sg L f k)))) 133 bn.length (J (cdT (f, k, q)))) 102 48 (J ((bn.length : Int) + 1)) := ⟨_, rfl⟩
    rw [← hM3] at hcl hcr hn5 ⊢
    have hR3 := hR2.kp hcl (by decide)
    have hA3 : RA M3 128 0 129 0 L := by
      have e8 : M3.1 128 = M2.1 128 := hcl.i (by decide) (by decide) (by decide) (by decide)
      have e9 : M3.1 129 = M2.1 129 := hcl.i (by decide) (by decide) (by decide) (by decide)
      unfold RA; rw [e8, e9]; exact hA2
    refine (r_moves hG hR3 hw hA3 wL hc).mono (fun M4 z => ?_)
    obtain ⟨z1, z2, z3⟩ := z
    have hR4 := hR3.kp z1 (by decide)
    have wL2 := wL.mvd hc.2.2.1 hc.1 hc.2.1 hc.2.2.2.2
    rw [wp_bind]
    refine (r_keep hG hR4 hw z3 wL2).mono (fun M5 x => ?_)
    obtain ⟨x1, x2, x3⟩ := x
    have hR5 := hR4.kp x1 (by decide)
    have h55 := (hn5.kp z1 (by decide)).kp x1 (by decide)
    have hlast := Sg_get (i := bn.length) h55.2.2.2 (by rw [bwt_len, List.length_cons]; omega)
    rw [Nat.zero_add, bwt_cons, gd_r _ (by rw [bwt_len]; omega), bwt_len, Nat.sub_self] at hlast
    rw [MRf47 hR5, wp_ck_t (GKk134 hG), h55.1, List.length_cons, J_sub, show ((bn.length + 1 : Nat) : Int) - 1 = (bn.length : Nat) by omega, wp_ck_t (by rw [GKl134 hG]; exact hrng), hcla, wp_some, hlast]
    refine ⟨((k2.sub (by decide)).trans (hcl.sub (by decide))).trans ((z1.sub (by decide)).trans (x1.sub (by decide))), (r2.trans hcr).trans (z2.trans x2), fun _ => ?_, fun h => absurd ⟨c, by omega⟩ h⟩
    rw [Int.toNat_natCast, Int.toNat_natCast, Int.toNat_natCast]
    exact ⟨rfl, x3, h55⟩
  · rw [hv, bi_f c, wp_ite_t rfl, wp_some]
    exact ⟨k2.sub (by decide), r2, fun h => absurd h.1 c, fun _ => ⟨rfl, h42, h52⟩⟩
end
