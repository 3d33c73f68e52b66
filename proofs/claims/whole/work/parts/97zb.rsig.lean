/-! SIGHTS: THE REFERENCE -/
theorem so_k {sg : List Si} {n d : Nat} {k : Int} {L : Ar} (hd : d ≤ n) : soS sg (kset sg n k) d L ↔ ∀ s, s ∈ sg → s.1.1 = d → (s.2.2.1 : Int) ≤ k → ¬ (s.2.2.2 ≠ -1 ∧ s.2.2.2 ≤ k) → (s.1.2.1 ∈ rl L s.1.2.2 ↔ s.2.1 = 1) := by
  have hb : ∀ (i : Nat) (s : Si), sg[i]? = some s → ((kset sg n k).testBit i = true ↔ knb n k s = true) := fun i s hs => by
    unfold kset
    rw [kst_bit]
    simp only [Nat.zero_testBit, Bool.false_eq_true, false_or, Nat.sub_zero, Nat.zero_le, true_and]
    constructor
    · rintro ⟨x, h1, h2⟩
      rw [hs] at h1
      rw [Option.some.inj h1]; exact h2
    · intro h; exact ⟨s, hs, h⟩
  unfold soS
  constructor
  · intro h s hs h1 h2 h3
    obtain ⟨i, hi, e⟩ := List.getElem_of_mem hs
    have hsi : sg[i]? = some s := by rw [List.getElem?_eq_getElem hi, e]
    exact h i s hsi ((hb i s hsi).mpr (by unfold knb; rw [decide_eq_true_eq]; exact ⟨by omega, h2, h3⟩)) h1
  · intro h i s hs h1 h2
    have := (hb i s hs).mp h1
    unfold knb at this
    rw [decide_eq_true_eq] at this
    exact h s (List.mem_of_getElem? hs) h2 this.2.1 this.2.2
section
variable {Γ : rhG} {M : rhM} {T : Tn} {L : Ar} {b : Nat} {g lb : Int}
theorem m_railOf (hG : GK Γ) (hR : MR M) (hw : TWf T) (hA : RA M 128 0 129 0 L) (wL : WA (tR T) (tH T) L) {h : Nat} (hh : h < tH T) : f_X12_railOf Γ M 102 (J h) = some (J (rlO L h)) := by
  have w1 := hw.1
  have w2 := hw.2.1
  obtain ⟨q, i, hq, hi, e, e1, e2⟩ := rlO_ex wL hh
  have hqL : q < L.length := by rw [wL.1]; exact hq
  have hL5 : L.length = tR T := wL.1
  have hcs := cum_succ L q
  have hle := wL.le (r := q + 1) (by omega)
  have hlen : (fl [] L).length = tH T := wL.len
  have nd : (fl [] L).Nodup := wL.2.nodup_iff.mpr List.nodup_range
  have hp : cum L q + i < (fl [] L).length := by omega
  have ep : (fl [] L).getD (cum L q + i) 0 = h := by rw [fl_get0 hi, e]
  obtain ⟨p, hpe⟩ : ∃ p, cum L q + i = p := ⟨_, rfl⟩
  rw [hpe] at hp ep
  have hne : ∀ p', p' < p → (fl [] L).getD p' 0 ≠ h := fun p' hp' he => by
    rw [← ep, gd_el _ hp, gd_el _ (show p' < _ by omega)] at he
    have := (List.getElem_inj nd).mp he
    omega
  have hc8 : ∀ r, r ≤ L.length → cum L r ≤ 8 := fun r hr => by have := cum_mono L hr; rw [fl_len0] at hlen; omega
  have k1 : ∀ (d n k : Nat), k + d = p → d < n → f_X12_railOf_4 (f_X12_railOf_20 Γ M rhFU) Γ M n 102 (J h) (J k) (J ((0 : Nat) : Int)) = f_X12_railOf_20 Γ M rhFU 102 (J p) (J ((0 : Nat) : Int)) := by
    intro d
    induction d with
    | zero =>
      intro n k hk hn
      obtain ⟨n, rfl⟩ : ∃ k, n = k + 1 := ⟨n - 1, by omega⟩
      have hg := Sg_get (i := k) hA.1 (by omega)
      rw [Nat.zero_add] at hg
      rw [f_X12_railOf_4, rhck_t (GKk102 hG), MRf39 hR, rhck_t (GKk128 hG), rhck_t (by rw [GKl128 hG, J_toInt (by omega) (by omega)]; omega), J_clamp (by omega) (by omega), Int.toNat_natCast, hg, show k = p by omega, ep, if_pos rfl]
    | succ d ih =>
      intro n k hk hn
      obtain ⟨n, rfl⟩ : ∃ k, n = k + 1 := ⟨n - 1, by omega⟩
      have hg := Sg_get (i := k) hA.1 (by omega)
      rw [Nat.zero_add] at hg
      have h1 := wL.gd (show k < tH T by omega)
      have h2 := hne k (by omega)
      rw [f_X12_railOf_4, rhck_t (GKk102 hG), MRf39 hR, rhck_t (GKk128 hG), rhck_t (by rw [GKl128 hG, J_toInt (by omega) (by omega)]; omega), J_clamp (a := (k : Int)) (by omega) (by omega), Int.toNat_natCast, hg, if_neg (by rw [J_eq (by omega) (by omega) (by omega) (by omega)]; omega), show (1 : Int32) = J 1 from rfl, J_add, J_suc]
      exact ih n (k + 1) (by omega) (by omega)
  have k2 : ∀ (d n k : Nat), k + d = q → d < n → f_X12_railOf_20 Γ M n 102 (J p) (J k) = some (J q) := by
    intro d
    induction d with
    | zero =>
      intro n k hk hn
      obtain ⟨n, rfl⟩ : ∃ k, n = k + 1 := ⟨n - 1, by omega⟩
      have he := hA.2 k (by omega)
      have := hc8 (k + 1) (by omega)
      rw [Nat.zero_add] at he
      rw [f_X12_railOf_20, rhck_t (GKk102 hG), MRf40 hR, rhck_t (GKk129 hG), rhck_t (by rw [GKl129 hG, J_toInt (by omega) (by omega)]; omega), J_clamp (by omega) (by omega), Int.toNat_natCast, he, if_pos (by rw [J_lt (by omega) (by omega) (by omega) (by omega), show k = q by omega]; omega), show k = q by omega]
    | succ d ih =>
      intro n k hk hn
      obtain ⟨n, rfl⟩ : ∃ k, n = k + 1 := ⟨n - 1, by omega⟩
      have he := hA.2 k (by omega)
      have h3 := hc8 (k + 1) (by omega)
      have h4 := hc8 (q + 1) (by omega)
      have hm := cum_mono L (show k + 1 ≤ q by omega)
      rw [Nat.zero_add] at he
      rw [f_X12_railOf_20, rhck_t (GKk102 hG), MRf40 hR, rhck_t (GKk129 hG), rhck_t (by rw [GKl129 hG, J_toInt (by omega) (by omega)]; omega), J_clamp (a := (k : Int)) (by omega) (by omega), Int.toNat_natCast, he, if_neg (by rw [J_lt (by omega) (by omega) (by omega) (by omega)]; omega), show (1 : Int32) = J 1 from rfl, J_add, J_suc]
      exact ih n (k + 1) (by omega) (by omega)
  have a1 := k1 p rhFU 0 (by omega) (by have := FU_big; omega)
  have a2 := k2 q rhFU 0 (by omega) (by have := FU_big; omega)
  rw [show ((0 : Nat) : Int) = 0 from rfl] at a1 a2
  rw [f_X12_railOf, show (0 : Int32) = J 0 from rfl, a1, a2, e1]
theorem r_isSo2 (hG : GK Γ) (hR : MR M) (hw : TWf T) (hA : RA M 128 0 129 0 L) (wL : WA (tR T) (tH T) L) {sg : List Si} (h10 : R10 M sg) (hSg : SgW T sg) {d : Nat} (hd3 : d ≤ 3) {k : Int} (k1 : -2147483648 ≤ k) (k2 : k < 2147483648) : ∀ (l : List Si) (f i : Nat), sg.drop i = l → i + l.length = sg.length → l.length < f → f_X12_isSo_2 Γ M f 102 (J d) (J k) (J i) = some (bi (∀ s, s ∈ l → s.1.1 = d → (s.2.2.1 : Int) ≤ k → ¬ (s.2.2.2 ≠ -1 ∧ s.2.2.2 ≤ k) → (s.1.2.1 ∈ rl L s.1.2.2 ↔ s.2.1 = 1))) := by
  obtain ⟨hs1, hs2⟩ := hSg
  have w1 := hw.1
  have w2 := hw.2.1
  intro l
  induction l with
  | nil =>
    intro f i hd hi hf
    obtain ⟨f, rfl⟩ : ∃ k, f = k + 1 := ⟨f - 1, by omega⟩
    rw [List.length_nil] at hi
    rw [f_X12_isSo_2, rhck_t (GKk102 hG), h10.1, if_neg (by rw [J_lt (by omega) (by omega) (by omega) (by omega)]; omega), bi_t (by simp)]
  | cons s l ih =>
    intro f i hd hi hf
    obtain ⟨f, rfl⟩ : ∃ k, f = k + 1 := ⟨f - 1, by omega⟩
    rw [List.length_cons] at hi hf
    have hil : i < sg.length := by omega
    have hdr := List.drop_eq_getElem_cons hil
    rw [hd] at hdr
    have hsi : sg[i]? = some s := by rw [List.getElem?_eq_getElem hil, (List.cons.inj hdr).1]
    have hdl := (List.cons.inj hdr).2.symm
    obtain ⟨y1, y2, y3, y4, y5, y6⟩ := h10.2 i s hsi
    obtain ⟨z1, z2, z3, z4, z5, z6, z7⟩ := hs2 s (List.mem_of_getElem? hsi)
    have hci : (J (i : Int)).toNatClampNeg = i := by rw [J_clamp (by omega) (by omega), Int.toNat_natCast]
    have hri : 0 ≤ (J (i : Int)).toInt ∧ (J (i : Int)).toInt < ((20 : Nat) : Int) := by rw [J_toInt (by omega) (by omega)]; omega
    have h87 : f_X12_isSo_87 (f_X12_isSo_2 Γ M f) Γ M 102 (J d) (J k) (J i) = some (bi (∀ s, s ∈ l → s.1.1 = d → (s.2.2.1 : Int) ≤ k → ¬ (s.2.2.2 ≠ -1 ∧ s.2.2.2 ≤ k) → (s.1.2.1 ∈ rl L s.1.2.2 ↔ s.2.1 = 1))) := by
      rw [f_X12_isSo_87, show (1 : Int32) = J 1 from rfl, J_add, J_suc]
      exact ih f (i + 1) hdl (by omega) (by omega)
    have hskip : ¬ (s.1.1 = d ∧ (s.2.2.1 : Int) ≤ k ∧ ¬ (s.2.2.2 ≠ -1 ∧ s.2.2.2 ≤ k)) → f_X12_isSo_87 (f_X12_isSo_2 Γ M f) Γ M 102 (J d) (J k) (J i) = some (bi (∀ x, x ∈ s :: l → x.1.1 = d → (x.2.2.1 : Int) ≤ k → ¬ (x.2.2.2 ≠ -1 ∧ x.2.2.2 ≤ k) → (x.1.2.1 ∈ rl L x.1.2.2 ↔ x.2.1 = 1))) := fun hn => by
      rw [h87]
      congr 1
      by_cases c : ∀ s, s ∈ l → s.1.1 = d → (s.2.2.1 : Int) ≤ k → ¬ (s.2.2.2 ≠ -1 ∧ s.2.2.2 ≤ k) → (s.1.2.1 ∈ rl L s.1.2.2 ↔ s.2.1 = 1)
      · rw [bi_t c, bi_t (fun x hx a b e => by
          rcases List.mem_cons.mp hx with h | h
          · rw [h] at a b e; exact absurd ⟨a, b, e⟩ hn
          · exact c x h a b e)]
      · rw [bi_f c, bi_f (fun h => c (fun x hx => h x (List.mem_cons_of_mem _ hx)))]
    have h52 : s.1.1 = d → (s.2.2.1 : Int) ≤ k → ¬ (s.2.2.2 ≠ -1 ∧ s.2.2.2 ≤ k) → f_X12_isSo_52 (f_X12_isSo_87 (f_X12_isSo_2 Γ M f) Γ M) Γ M 102 (J d) (J k) (J i) = some (bi (∀ x, x ∈ s :: l → x.1.1 = d → (x.2.2.1 : Int) ≤ k → ¬ (x.2.2.2 ≠ -1 ∧ x.2.2.2 ≤ k) → (x.1.2.1 ∈ rl L x.1.2.2 ↔ x.2.1 = 1))) := fun a1 a2 a3 => by
      obtain ⟨q, iq, hq, hiq, eq, eq1, -⟩ := rlO_ex wL z2
      have hmem : (s.1.2.1 ∈ rl L s.1.2.2) ↔ rlO L s.1.2.1 = s.1.2.2 := by
        constructor
        · intro hm
          rw [eq1]
          exact wL.uniq hq z3 (by rw [← eq]; exact gd_mem 0 hiq) hm
        · intro hm
          rw [← hm, eq1, ← eq]; exact gd_mem 0 hiq
      have h76 : ∀ u : Nat, u ≤ 1 → (u = 1 ↔ s.1.2.1 ∈ rl L s.1.2.2) → f_X12_isSo_76 (f_X12_isSo_87 (f_X12_isSo_2 Γ M f) Γ M) Γ M 102 (J d) (J k) (J i) (J u) = some (bi (∀ x, x ∈ s :: l → x.1.1 = d → (x.2.2.1 : Int) ≤ k → ¬ (x.2.2.2 ≠ -1 ∧ x.2.2.2 ≤ k) → (x.1.2.1 ∈ rl L x.1.2.2 ↔ x.2.1 = 1))) := fun u hu1 hu => by
        rw [f_X12_isSo_76, rhck_t (GKk102 hG), MRf81 hR, rhck_t (GKk158 hG), GKl158 hG, rhck_t hri, hci, y4]
        by_cases c3 : u = s.2.1
        · rw [if_pos (by rw [c3]), h87]
          congr 1
          by_cases c : ∀ s, s ∈ l → s.1.1 = d → (s.2.2.1 : Int) ≤ k → ¬ (s.2.2.2 ≠ -1 ∧ s.2.2.2 ≤ k) → (s.1.2.1 ∈ rl L s.1.2.2 ↔ s.2.1 = 1)
          · rw [bi_t c, bi_t (fun x hx a b e => by
              rcases List.mem_cons.mp hx with h | h
              · rw [h, ← hu, c3]
              · exact c x h a b e)]
          · rw [bi_f c, bi_f (fun h => c (fun x hx => h x (List.mem_cons_of_mem _ hx)))]
        · rw [if_neg (by rw [J_eq (by omega) (by omega) (by omega) (by omega)]; omega), bi_f (fun h => by
            have := hu.trans (h s List.mem_cons_self a1 a2 a3)
            omega)]
      rw [f_X12_isSo_52, rhck_t (GKk102 hG), MRf73 hR, rhck_t (GKk150 hG), GKl150 hG, rhck_t hri, hci, y2, m_railOf hG hR hw hA wL z2, Option.bind_some, MRf74 hR, rhck_t (GKk151 hG), GKl151 hG, rhck_t hri, y3]
      by_cases c4 : rlO L s.1.2.1 = s.1.2.2
      · rw [if_pos (by rw [c4])]
        exact h76 1 (Nat.le_refl 1) ⟨fun _ => hmem.mpr c4, fun _ => rfl⟩
      · rw [if_neg (by rw [J_eq (by omega) (by omega) (by omega) (by omega)]; omega)]
        exact h76 0 (Nat.zero_le 1) ⟨fun h => by omega, fun h => absurd (hmem.mp h) c4⟩
    rw [f_X12_isSo_2, rhck_t (GKk102 hG), h10.1, if_pos (by rw [J_lt (by omega) (by omega) (by omega) (by omega)]; omega), MRf72 hR, rhck_t (GKk149 hG), GKl149 hG, rhck_t hri, hci, y1]
    by_cases c1 : s.1.1 = d
    · rw [if_pos (by rw [c1]), MRf75 hR, rhck_t (GKk152 hG), GKl152 hG, rhck_t hri, y5]
      by_cases c2 : k < s.2.2.1
      · rw [if_pos (by rw [J_lt (by omega) (by omega) (by omega) (by omega)]; exact c2)]; exact hskip (by omega)
      · rw [if_neg (by rw [J_lt (by omega) (by omega) (by omega) (by omega)]; exact c2), MRf76 hR, rhck_t (GKk153 hG), GKl153 hG, rhck_t hri, y6]
        by_cases c3 : s.2.2.2 < 0
        · rw [if_pos (by rw [show (0 : Int32) = J 0 from rfl, J_lt (by omega) (by omega) (by omega) (by omega)]; exact c3)]; exact h52 c1 (by omega) (by omega)
        · rw [if_neg (by rw [show (0 : Int32) = J 0 from rfl, J_lt (by omega) (by omega) (by omega) (by omega)]; exact c3)]
          by_cases c4 : k < s.2.2.2
          · rw [if_pos (by rw [J_lt (by omega) (by omega) (by omega) (by omega)]; exact c4)]; exact h52 c1 (by omega) (by omega)
          · rw [if_neg (by rw [J_lt (by omega) (by omega) (by omega) (by omega)]; exact c4)]; exact hskip (by omega)
    · rw [if_neg (by rw [J_eq (by omega) (by omega) (by omega) (by omega)]; omega)]; exact hskip (by omega)
theorem r_isSo (hG : GK Γ) (hR : MR M) (hw : TWf T) (hA : RA M 128 0 129 0 L) (wL : WA (tR T) (tH T) L) {sg : List Si} (h10 : R10 M sg) (hSg : SgW T sg) {d n : Nat} (hd3 : d ≤ 3) (hdn : d ≤ n) {k : Int} (k1 : -2147483648 ≤ k) (k2 : k < 2147483648) : f_X12_isSo Γ M 102 (J d) (J k) = some (bi (soS sg (kset sg n k) d L)) := by
  have := r_isSo2 hG hR hw hA wL h10 hSg hd3 k1 k2 sg rhFU 0 rfl (by omega) (by have := FU_big; have := hSg.1; omega)
  rw [f_X12_isSo]
  refine Eq.trans this ?_
  congr 1
  by_cases c : soS sg (kset sg n k) d L
  · rw [bi_t c, bi_t ((so_k hdn).mp c)]
  · rw [bi_f c, bi_f (fun h => c ((so_k hdn).mpr h))]
theorem mskV_app (a b : List Ar) (h : Nat) : mskV (a ++ b) h = mskV a h ||| mskV b h := by
  apply Nat.eq_of_testBit_eq
  intro j
  have e : ∀ l, (mskV l h).testBit j = true ↔ ∃ L, L ∈ l ∧ rlO L h = j := fun l => by unfold mskV; rw [mskV_bit]; simp
  have : (mskV (a ++ b) h).testBit j = true ↔ (mskV a h ||| mskV b h).testBit j = true := by
    rw [Nat.testBit_or, Bool.or_eq_true, e, e, e]
    constructor
    · rintro ⟨L, x, y⟩
      rcases List.mem_append.mp x with x | x
      · exact Or.inl ⟨L, x, y⟩
      · exact Or.inr ⟨L, x, y⟩
    · rintro (⟨L, x, y⟩ | ⟨L, x, y⟩)
      · exact ⟨L, List.mem_append_left _ x, y⟩
      · exact ⟨L, List.mem_append_right _ x, y⟩
  cases h1 : (mskV (a ++ b) h).testBit j with
  | true => rw [this.mp h1]
  | false =>
    cases h2 : (mskV a h ||| mskV b h).testBit j with
    | false => rfl
    | true => rw [this.mpr h2] at h1; cases h1
theorem r_meets (hG : GK Γ) (hw : TWf T) (wL : WA (tR T) (tH T) L) (v : Nat → Nat) : ∀ (d f : Nat) (M : rhM) (i : Nat), i + d = tH T → d < f → MR M → TM M b T g lb → RA M 128 0 129 0 L → (∀ h, h < tH T → M.1 154 h = J ((if h < i then v h ||| 2 ^ rlO L h else v h : Nat) : Int)) →
    wp (f_X12_meets_2 Γ f M 102 (J i)) (fun x => x.1 = 1 ∧ Fr [154] M x.2 ∧ ∀ h, h < tH T → x.2.1 154 h = J ((v h ||| 2 ^ rlO L h : Nat) : Int)) := by
  have w1 := hw.1
  have w2 := hw.2.1
  intro d
  induction d with
  | zero =>
    intro f M i hi hf hR hT hA hv
    obtain ⟨f, rfl⟩ : ∃ k, f = k + 1 := ⟨f - 1, by omega⟩
    rw [f_X12_meets_2, wp_ck_t (GKk102 hG), m_houseMany hG hR hT, wp_bind, wp_some, wp_ite_f (by rw [J_lt (by omega) (by omega) (by omega) (by omega)]; omega), wp_some]
    exact ⟨rfl, Fr.refl _ _, fun h hh => by rw [hv h hh, if_pos (by omega)]⟩
  | succ d ih =>
    intro f M i hi hf hR hT hA hv
    obtain ⟨f, rfl⟩ : ∃ k, f = k + 1 := ⟨f - 1, by omega⟩
    have hvi := hv i (by omega)
    rw [if_neg (Nat.lt_irrefl i)] at hvi
    obtain ⟨q, iq, hq, hiq, eq, eq1, -⟩ := rlO_ex wL (show i < tH T by omega)
    rw [f_X12_meets_2, wp_ck_t (GKk102 hG), m_houseMany hG hR hT, wp_bind, wp_some, wp_ite_t (by rw [J_lt (by omega) (by omega) (by omega) (by omega)]; omega), MRf77 hR, wp_ck_t (GKk154 hG), wp_ck_t (by rw [GKl154 hG, J_toInt (by omega) (by omega)]; omega), m_railOf hG hR hw hA wL (by omega), wp_bind, wp_some, J_clamp (by omega) (by omega), Int.toNat_natCast, hvi]
    dsimp only
    rw [J_1sh (rlO L i) (by omega), J_or, show (1 : Int32) = J 1 from rfl, J_add, J_suc]
    have hF : Fr [154] M (rhsi M 154 i (J ((v i ||| 2 ^ rlO L i : Nat) : Int))) := (Fr.refl _ _).si (by simp) _ _
    refine (ih f _ (i + 1) (by omega) (by omega) (hR.fr hF) (hT.fr hF (by rw [hF.i (by decide)]) (by rw [hF.i (by decide)]) (by rw [hF.i (by decide)]) (by decide)) (hA.fr hF (by decide) (by decide)) (fun h hh => ?_)).mono (fun x q => ⟨q.1, hF.trans q.2.1, q.2.2⟩)
    rw [si_1]
    by_cases e : h = i
    · rw [if_pos ⟨rfl, e⟩, e, if_pos (by omega)]
    · rw [if_neg (by omega), hv h hh]
      by_cases e2 : h < i
      · rw [if_pos e2, if_pos (by omega)]
      · rw [if_neg e2, if_neg (by omega)]
end
