/-! THE REFERENCE'S TOWN AND HOW ITS HOUSES STAND -/
theorem wp_eq {α : Type} {o : Option α} {v : α} (h : wp o (fun a => a = v)) : o = some v := by
  obtain ⟨a, e, rfl⟩ := h; exact e
noncomputable def bi (p : Prop) : Int32 := @ite Int32 p (Classical.propDecidable p) 1 0
theorem bi_t {p : Prop} (h : p) : bi p = 1 := if_pos h
theorem bi_f {p : Prop} (h : ¬ p) : bi p = 0 := if_neg h
def mch (k : Nat) : Nat := if k = 48 then 110 else if k = 17 then 104 else if k = 6 then 108 else if k = 7 then 119 else if k = 13 then 109 else if k = 14 then 102 else if k = 15 then 116 else if k = 16 then 114 else if k = 12 then 126 else if k = 11 then 38 else if k = 10 then 124 else k
def TM (M : rhM) (b : Nat) (T : Tn) (g lb : Int) : Prop := b ≤ 1 ∧ M.1 102 34 = J b ∧ M.1 105 b = J (tR T) ∧ M.1 106 b = J (tH T) ∧ M.1 109 b = J (tN T) ∧ M.1 110 b = J (tD T) ∧ M.1 108 b = J (tU T) ∧
  M.1 119 b = J (if tC T = [] then 0 else 1) ∧ M.1 111 b = J (500 * b + (tC T).length) ∧ M.1 102 44 = J g ∧ M.1 102 45 = J lb ∧ -1 ≤ g ∧ g ≤ 5 ∧ 0 ≤ lb ∧ lb ≤ 99 ∧
  (∀ r, r < tR T → M.1 112 (5 * b + r) = J (tL T r - if (r : Int) = g then lb else 0)) ∧ (∀ h, h < tH T → M.1 113 (8 * b + h) = J (tl T h)) ∧ (∀ h, h < tH T → M.1 114 (8 * b + h) = J (tw T h)) ∧ (∀ h, h < tH T → M.1 115 (8 * b + h) = J (tF T h)) ∧
  (∀ h k, h < tH T → k < tH T → M.1 116 (64 * b + 8 * h + k) = J (tW T h k)) ∧ Sg (M.1 123) (500 * b) ((tC T).map fun o => mch o.1) ∧ Sg (M.1 124) (500 * b) ((tC T).map fun o => o.2)
def RA (M : rhM) (a oa b ob : Nat) (L : Ar) : Prop := Sg (M.1 a) oa (fl [] L) ∧ ∀ r, r < L.length → M.1 b (ob + r) = J (cum L (r + 1))
theorem fb_rng' (x : Int32) : -2147483648 ≤ x.toInt ∧ x.toInt < 2147483648 := by
  have h1 := x.toInt_lt; have h2 := x.le_toInt; omega
section
variable {Γ : rhG} {M : rhM} {b : Nat} {T : Tn} {g lb : Int} {L : Ar}
theorem m_railMany (hG : GK Γ) (hR : MR M) (hT : TM M b T g lb) : f_X12_railMany Γ M 102 = some (J (tR T)) := by
  obtain ⟨hb, e34, e105, e106, e109, e110, e108, e119, e111, e44, e45, g1, g2, l1, l2, e112, e113, e114, e115, e116, e123, e124⟩ := hT
  apply wp_eq
  simp (disch := omega) only [f_X12_railMany, GKk102 hG, MRf11 hR, GKk105 hG, GKl105 hG, wp_some, wp_ck_T, wp_ck_t, wp_bind, wp_ite_t, wp_ite_f, J_lit, J_neg, J_add, J_sub, J_mul, J_lt, J_le, J_eq, J_toInt, J_clamp, J_suc, si_1, si_2, sl_1, sl_2, sl_3, Int.toNat_natCast, Int.reduceToNat, Nat.add_sub_cancel, Int.toNat_add, Int.toNat_mul, Int.toNat_sub'', true_and, and_true, and_self, if_true, if_false, not_true, not_false_eq_true, e34, e105]
theorem m_houseMany (hG : GK Γ) (hR : MR M) (hT : TM M b T g lb) : f_X12_houseMany Γ M 102 = some (J (tH T)) := by
  obtain ⟨hb, e34, e105, e106, e109, e110, e108, e119, e111, e44, e45, g1, g2, l1, l2, e112, e113, e114, e115, e116, e123, e124⟩ := hT
  apply wp_eq
  simp (disch := omega) only [f_X12_houseMany, GKk102 hG, MRf12 hR, GKk106 hG, GKl106 hG, wp_some, wp_ck_T, wp_ck_t, wp_bind, wp_ite_t, wp_ite_f, J_lit, J_neg, J_add, J_sub, J_mul, J_lt, J_le, J_eq, J_toInt, J_clamp, J_suc, si_1, si_2, sl_1, sl_2, sl_3, Int.toNat_natCast, Int.reduceToNat, Nat.add_sub_cancel, Int.toNat_add, Int.toNat_mul, Int.toNat_sub'', true_and, and_true, and_self, if_true, if_false, not_true, not_false_eq_true, e34, e106]
theorem m_isIn (x y z : Int32) : f_X12_isIn Γ M x y z = some (if x < y then 0 else if z < x then 0 else 1) := by
  unfold f_X12_isIn
  split
  · rfl
  · split <;> rfl
theorem m_isRail (hG : GK Γ) (hR : MR M) (hT : TM M b T g lb) (hw : TWf T) (x : Int32) : f_X12_isRail Γ M 102 x = some (if 0 ≤ x.toInt ∧ x.toInt < tR T then 1 else 0) := by
  obtain ⟨w1, w2, -⟩ := hw
  have hx := fb_rng' x
  apply wp_eq
  rw [f_X12_isRail]
  simp (disch := omega) only [GKk102 hG, m_railMany hG hR hT, m_isIn, wp_some, wp_ck_T, wp_ck_t, wp_bind, wp_ite_t, wp_ite_f, J_lit, J_neg, J_add, J_sub, J_mul, J_lt, J_le, J_eq, J_toInt, J_clamp, J_suc, si_1, si_2, sl_1, sl_2, sl_3, Int.toNat_natCast, Int.reduceToNat, Nat.add_sub_cancel, Int.toNat_add, Int.toNat_mul, Int.toNat_sub'', true_and, and_true, and_self, if_true, if_false, not_true, not_false_eq_true]
  rw [← J_of x]
  simp (disch := omega) only [wp_some, wp_ck_T, wp_ck_t, wp_bind, wp_ite_t, wp_ite_f, J_lit, J_neg, J_add, J_sub, J_mul, J_lt, J_le, J_eq, J_toInt, J_clamp, J_suc, si_1, si_2, sl_1, sl_2, sl_3, Int.toNat_natCast, Int.reduceToNat, Nat.add_sub_cancel, Int.toNat_add, Int.toNat_mul, Int.toNat_sub'', true_and, and_true, and_self, if_true, if_false, not_true, not_false_eq_true]
  split
  · rw [if_neg (by omega)]; exact ⟨_, rfl, rfl⟩
  · split
    · rw [if_neg (by omega)]; exact ⟨_, rfl, rfl⟩
    · rw [if_pos (by omega)]; exact ⟨_, rfl, rfl⟩
theorem m_beginOf (hG : GK Γ) (hR : MR M) (hA : RA M 128 0 129 0 L) {r : Nat} (h : r ≤ L.length) (h2 : r ≤ 6) : f_X12_beginOf Γ M 102 (J r) = some (J (cum L r)) := by
  apply wp_eq
  rw [f_X12_beginOf]
  by_cases e : r = 0
  · subst e
    simp (disch := omega) only [wp_some, wp_ck_T, wp_ck_t, wp_bind, wp_ite_t, wp_ite_f, J_lit, J_neg, J_add, J_sub, J_mul, J_lt, J_le, J_eq, J_toInt, J_clamp, J_suc, si_1, si_2, sl_1, sl_2, sl_3, Int.toNat_natCast, Int.reduceToNat, Nat.add_sub_cancel, Int.toNat_add, Int.toNat_mul, Int.toNat_sub'', true_and, and_true, and_self, if_true, if_false, not_true, not_false_eq_true, cum]
    rfl
  · obtain ⟨k, rfl⟩ : ∃ k, r = k + 1 := ⟨r - 1, by omega⟩
    have h3 := hA.2 k (by omega)
    rw [Nat.zero_add] at h3
    have h4 : (((k + 1 : Nat) : Int) - 1).toNat = k := by omega
    simp (disch := omega) only [wp_some, wp_ck_T, wp_ck_t, wp_bind, wp_ite_t, wp_ite_f, J_lit, J_neg, J_add, J_sub, J_mul, J_lt, J_le, J_eq, J_toInt, J_clamp, J_suc, si_1, si_2, sl_1, sl_2, sl_3, Int.toNat_natCast, Int.reduceToNat, Nat.add_sub_cancel, Int.toNat_add, Int.toNat_mul, Int.toNat_sub'', true_and, and_true, and_self, if_true, if_false, not_true, not_false_eq_true, GKk102 hG, MRf40 hR, GKk129 hG, GKl129 hG]
    exact h3
theorem m_sum13 (hG : GK Γ) (hR : MR M) (e34 : M.1 102 34 = J b) (hb : b ≤ 1) {H w r E : Nat} {q : Nat → Nat} (hH : H ≤ 8) (hq : ∀ h, h < H → M.1 w (8 * b + h) = J (q h)) (hk : Γ.2.2.1 w = 15) (hl : Γ.2.2.2 w = 16)
    (hr : r < 6) (hE : M.1 129 r = J E) (hE8 : E ≤ 8) : ∀ (l : List Nat) (n p : Nat) (acc : Int), Sg (M.1 128) p l → p + l.length = E → (∀ h, h ∈ l → h < H) → l.length < n → f_X12_sumOf_13 Γ M n 102 w (J r) (J acc) (J p) = some (J (acc + sm q l)) := by
  intro l
  induction l with
  | nil =>
    intro n p acc hs he hm hn
    obtain ⟨n, rfl⟩ : ∃ k, n = k + 1 := ⟨n - 1, by simp only [List.length_nil] at hn; omega⟩
    simp only [List.length_nil] at he
    apply wp_eq
    rw [f_X12_sumOf_13]
    simp (disch := omega) only [wp_some, wp_ck_T, wp_ck_t, wp_bind, wp_ite_t, wp_ite_f, J_lit, J_neg, J_add, J_sub, J_mul, J_lt, J_le, J_eq, J_toInt, J_clamp, J_suc, si_1, si_2, sl_1, sl_2, sl_3, Int.toNat_natCast, Int.reduceToNat, Nat.add_sub_cancel, Int.toNat_add, Int.toNat_mul, Int.toNat_sub'', true_and, and_true, and_self, if_true, if_false, not_true, not_false_eq_true, GKk102 hG, MRf40 hR, GKk129 hG, GKl129 hG, hE, sm_nil]
    simp
  | cons x l ih =>
    intro n p acc hs he hm hn
    obtain ⟨n, rfl⟩ : ∃ k, n = k + 1 := ⟨n - 1, by rw [List.length_cons] at hn; omega⟩
    rw [List.length_cons] at he hn
    have hx := hm x List.mem_cons_self
    apply wp_eq
    rw [f_X12_sumOf_13]
    have hi := ih n (p + 1) (acc + q x) hs.2 (by omega) (fun h hh => hm h (List.mem_cons_of_mem _ hh)) (by omega)
    simp (disch := omega) only [wp_some, wp_ck_T, wp_ck_t, wp_bind, wp_ite_t, wp_ite_f, J_lit, J_neg, J_add, J_sub, J_mul, J_lt, J_le, J_eq, J_toInt, J_clamp, J_suc, si_1, si_2, sl_1, sl_2, sl_3, Int.toNat_natCast, Int.reduceToNat, Nat.add_sub_cancel, Int.toNat_add, Int.toNat_mul, Int.toNat_sub'', true_and, and_true, and_self, if_true, if_false, not_true, not_false_eq_true, GKk102 hG, MRf40 hR, MRf39 hR, GKk129 hG, GKl129 hG, GKk128 hG, GKl128 hG, hE, hs.1, hk, hl, e34, hq x hx, hi, sm_cons]
    congr 1; omega
theorem m_sumOf (hG : GK Γ) (hR : MR M) (hT : TM M b T g lb) (hw : TWf T) (hA : RA M 128 0 129 0 L) (wL : WA (tR T) (tH T) L) {w f m : Nat} {q : Nat → Nat} (hq : ∀ h, h < tH T → M.1 w (8 * b + h) = J (q h)) (hk : Γ.2.2.1 w = 15) (hl : Γ.2.2.2 w = 16)
    (hf : f < tR T) (hm : m ≤ (rl L f).length) : f_X12_sumOf Γ M 102 w (J f) (J m) = some (J (sm q (sg L f m))) := by
  obtain ⟨hb, e34, e105, e106, e109, e110, e108, e119, e111, e44, e45, g1, g2, l1, l2, e112, e113, e114, e115, e116, e123, e124⟩ := hT
  obtain ⟨w1, w2, -⟩ := hw
  have h1 := hA.2 f (by rw [wL.1]; exact hf)
  rw [Nat.zero_add] at h1
  have h2 := Sg_sg hA.1 (by rw [wL.1]; exact hf) hm
  rw [Nat.zero_add] at h2
  have h3 := wL.le (r := f + 1) (by omega)
  have h4 : (rl L f).length ≤ cum L (f + 1) := by rw [cum_succ]; omega
  have h5 := sg_len hm
  have := m_sum13 hG hR e34 hb w2 hq hk hl (show f < 6 by omega) h1 (by omega) _ rhFU (cum L (f + 1) - m) 0 h2 (by omega) (fun h hh => wL.lt.mp (rl_sub (List.mem_of_mem_drop hh))) (by have := FU_big; omega)
  apply wp_eq
  rw [f_X12_sumOf]
  rw [Int.ofNat_sub (by omega)] at this
  simp (disch := omega) only [wp_some, wp_ck_T, wp_ck_t, wp_bind, wp_ite_t, wp_ite_f, J_lit, J_neg, J_add, J_sub, J_mul, J_lt, J_le, J_eq, J_toInt, J_clamp, J_suc, si_1, si_2, sl_1, sl_2, sl_3, Int.toNat_natCast, Int.reduceToNat, Nat.add_sub_cancel, Int.toNat_add, Int.toNat_mul, Int.toNat_sub'', true_and, and_true, and_self, if_true, if_false, not_true, not_false_eq_true, GKk102 hG, MRf40 hR, GKk129 hG, GKl129 hG, h1, this]
  simp
theorem m_room37 (hG : GK Γ) (hR : MR M) (e34 : M.1 102 34 = J b) (hb : b ≤ 1) {H r E : Nat} {q : Nat → Nat} (hH : H ≤ 8) (hq : ∀ h, h < H → M.1 113 (8 * b + h) = J (q h))
    (hr : r < 6) (hE : M.1 129 r = J E) (hE8 : E ≤ 8) : ∀ (l : List Nat) (n p : Nat) (acc : Int), Sg (M.1 128) p l → p + l.length = E → (∀ h, h ∈ l → h < H) → l.length < n → f_X12_roomOn_37 Γ M n 102 (J r) (J acc) (J p) = some (J (acc - sm q l)) := by
  intro l
  induction l with
  | nil =>
    intro n p acc hs he hm hn
    obtain ⟨n, rfl⟩ : ∃ k, n = k + 1 := ⟨n - 1, by simp only [List.length_nil] at hn; omega⟩
    simp only [List.length_nil] at he
    apply wp_eq
    rw [f_X12_roomOn_37]
    simp (disch := omega) only [wp_some, wp_ck_T, wp_ck_t, wp_bind, wp_ite_t, wp_ite_f, J_lit, J_neg, J_add, J_sub, J_mul, J_lt, J_le, J_eq, J_toInt, J_clamp, J_suc, si_1, si_2, sl_1, sl_2, sl_3, Int.toNat_natCast, Int.reduceToNat, Nat.add_sub_cancel, Int.toNat_add, Int.toNat_mul, Int.toNat_sub'', true_and, and_true, and_self, if_true, if_false, not_true, not_false_eq_true, GKk102 hG, MRf40 hR, GKk129 hG, GKl129 hG, hE, sm_nil]
    simp
  | cons x l ih =>
    intro n p acc hs he hm hn
    obtain ⟨n, rfl⟩ : ∃ k, n = k + 1 := ⟨n - 1, by rw [List.length_cons] at hn; omega⟩
    rw [List.length_cons] at he hn
    have hx := hm x List.mem_cons_self
    apply wp_eq
    rw [f_X12_roomOn_37]
    have hi := ih n (p + 1) (acc - q x) hs.2 (by omega) (fun h hh => hm h (List.mem_cons_of_mem _ hh)) (by omega)
    simp (disch := omega) only [wp_some, wp_ck_T, wp_ck_t, wp_bind, wp_ite_t, wp_ite_f, J_lit, J_neg, J_add, J_sub, J_mul, J_lt, J_le, J_eq, J_toInt, J_clamp, J_suc, si_1, si_2, sl_1, sl_2, sl_3, Int.toNat_natCast, Int.reduceToNat, Nat.add_sub_cancel, Int.toNat_add, Int.toNat_mul, Int.toNat_sub'', true_and, and_true, and_self, if_true, if_false, not_true, not_false_eq_true, GKk102 hG, MRf40 hR, MRf39 hR, MRf19 hR, GKk129 hG, GKl129 hG, GKk128 hG, GKl128 hG, GKk113 hG, GKl113 hG, hE, hs.1, e34, hq x hx, hi, sm_cons]
    congr 1; omega
theorem m_roomOn (hG : GK Γ) (hR : MR M) (hT : TM M b T g lb) (hw : TWf T) (hA : RA M 128 0 129 0 L) (wL : WA (tR T) (tH T) L) {r : Nat} (hr : r < tR T) : f_X12_roomOn Γ M 102 (J r) = some (J (room T L r)) := by
  have hB := m_beginOf hG hR hA (r := r) (by rw [wL.1]; omega) (by have := hw.1; omega)
  obtain ⟨hb, e34, e105, e106, e109, e110, e108, e119, e111, e44, e45, g1, g2, l1, l2, e112, e113, e114, e115, e116, e123, e124⟩ := hT
  obtain ⟨w1, w2, -⟩ := hw
  have h1 := hA.2 r (by rw [wL.1]; exact hr)
  rw [Nat.zero_add] at h1
  have h2 := Sg_rl hA.1 (by rw [wL.1]; exact hr)
  rw [Nat.zero_add] at h2
  have h3 := wL.le (r := r + 1) (by omega)
  have h4 : cum L (r + 1) = cum L r + (rl L r).length := cum_succ L r
  have h6 := m_room37 hG hR e34 hb w2 e113 (show r < 6 by omega) h1 (by omega) _ rhFU (cum L r) (tL T r) h2 (by omega) (fun h hh => wL.lt.mp (rl_sub hh)) (by have := FU_big; omega)
  apply wp_eq
  rw [f_X12_roomOn]
  have h7 := e112 r hr
  by_cases e : (r : Int) = g
  · rw [if_pos e] at h7
    subst e
    have h8 : (tL T r : Int) - lb + lb = tL T r := by omega
    simp (disch := omega) only [wp_some, wp_ck_T, wp_ck_t, wp_bind, wp_ite_t, wp_ite_f, J_lit, J_neg, J_add, J_sub, J_mul, J_lt, J_le, J_eq, J_toInt, J_clamp, J_suc, si_1, si_2, sl_1, sl_2, sl_3, Int.toNat_natCast, Int.reduceToNat, Nat.add_sub_cancel, Int.toNat_add, Int.toNat_mul, Int.toNat_sub'', true_and, and_true, and_self, if_true, if_false, not_true, not_false_eq_true, f_X12_roomOn_29, GKk102 hG, MRf18 hR, GKk112 hG, GKl112 hG, e34, e44, e45, h7, hB, h8, h6]
    rfl
  · rw [if_neg e] at h7
    have h8 : (tL T r : Int) - 0 + 0 = tL T r := by omega
    simp (disch := omega) only [wp_some, wp_ck_T, wp_ck_t, wp_bind, wp_ite_t, wp_ite_f, J_lit, J_neg, J_add, J_sub, J_mul, J_lt, J_le, J_eq, J_toInt, J_clamp, J_suc, si_1, si_2, sl_1, sl_2, sl_3, Int.toNat_natCast, Int.reduceToNat, Nat.add_sub_cancel, Int.toNat_add, Int.toNat_mul, Int.toNat_sub'', true_and, and_true, and_self, if_true, if_false, not_true, not_false_eq_true, f_X12_roomOn_29, GKk102 hG, MRf18 hR, GKk112 hG, GKl112 hG, e34, e44, e45, h7, hB, h8, h6]
    rfl
theorem m_canBe (hG : GK Γ) (hR : MR M) (hT : TM M b T g lb) (hw : TWf T) (hA : RA M 128 0 129 0 L) (wL : WA (tR T) (tH T) L) (f m t : Int32) :
    f_X12_canBe Γ M 102 f m t = some (bi (0 ≤ f.toInt ∧ 0 ≤ t.toInt ∧ 1 ≤ m.toInt ∧ canB T L f.toInt.toNat m.toInt.toNat t.toInt.toNat)) := by
  have hi := m_isRail hG hR hT hw
  have hf := fb_rng' f
  have ht := fb_rng' t
  have hm := fb_rng' m
  have hn := hw.1
  have hh := hw.2.1
  rw [f_X12_canBe, hi, hi]
  simp only [rhck_t (GKk102 hG), Option.bind_some]
  by_cases c1 : 0 ≤ f.toInt ∧ f.toInt < tR T
  · rw [if_pos c1, if_neg (by decide)]
    by_cases c2 : 0 ≤ t.toInt ∧ t.toInt < tR T
    · rw [if_pos c2, if_neg (by decide)]
      obtain ⟨a, ha⟩ : ∃ a : Nat, f.toInt = a := ⟨f.toInt.toNat, by omega⟩
      have hB := m_beginOf hG hR hA (r := a) (by rw [wL.1]; omega) (by omega)
      have hE := hA.2 a (by rw [wL.1]; omega)
      rw [Nat.zero_add] at hE
      have hc := cum_succ L a
      have hl := wL.le (r := a + 1) (by omega)
      rw [← J_of f, ← J_of m, ← J_of t, ha, J_toInt (by omega) (by omega), J_toInt hm.1 hm.2, J_toInt ht.1 ht.2]
      apply wp_eq
      unfold canB
      by_cases c3 : (a : Int) = t.toInt
      · rw [bi_f (by simp only [Int.toNat_natCast]; omega)]
        simp (disch := omega) only [wp_some, wp_ck_T, wp_ck_t, wp_bind, wp_ite_t, wp_ite_f, J_lit, J_neg, J_add, J_sub, J_mul, J_lt, J_le, J_eq, J_toInt, J_clamp, J_suc, si_1, si_2, sl_1, sl_2, sl_3, Int.toNat_natCast, Int.reduceToNat, Nat.add_sub_cancel, Int.toNat_add, Int.toNat_mul, Int.toNat_sub'', true_and, and_true, and_self, if_true, if_false, not_true, not_false_eq_true]
      · by_cases c4 : m.toInt < 1
        · rw [bi_f (by simp only [Int.toNat_natCast]; omega)]
          simp (disch := omega) only [wp_some, wp_ck_T, wp_ck_t, wp_bind, wp_ite_t, wp_ite_f, J_lit, J_neg, J_add, J_sub, J_mul, J_lt, J_le, J_eq, J_toInt, J_clamp, J_suc, si_1, si_2, sl_1, sl_2, sl_3, Int.toNat_natCast, Int.reduceToNat, Nat.add_sub_cancel, Int.toNat_add, Int.toNat_mul, Int.toNat_sub'', true_and, and_true, and_self, if_true, if_false, not_true, not_false_eq_true]
        · by_cases c5 : (rl L a).length < m.toInt
          · rw [bi_f (by simp only [Int.toNat_natCast]; omega)]
            simp (disch := omega) only [wp_some, wp_ck_T, wp_ck_t, wp_bind, wp_ite_t, wp_ite_f, J_lit, J_neg, J_add, J_sub, J_mul, J_lt, J_le, J_eq, J_toInt, J_clamp, J_suc, si_1, si_2, sl_1, sl_2, sl_3, Int.toNat_natCast, Int.reduceToNat, Nat.add_sub_cancel, Int.toNat_add, Int.toNat_mul, Int.toNat_sub'', true_and, and_true, and_self, if_true, if_false, not_true, not_false_eq_true, MRf40 hR, GKk129 hG, GKl129 hG, hB, hE]
          · rw [bi_t (by simp only [Int.toNat_natCast]; omega)]
            simp (disch := omega) only [wp_some, wp_ck_T, wp_ck_t, wp_bind, wp_ite_t, wp_ite_f, J_lit, J_neg, J_add, J_sub, J_mul, J_lt, J_le, J_eq, J_toInt, J_clamp, J_suc, si_1, si_2, sl_1, sl_2, sl_3, Int.toNat_natCast, Int.reduceToNat, Nat.add_sub_cancel, Int.toNat_add, Int.toNat_mul, Int.toNat_sub'', true_and, and_true, and_self, if_true, if_false, not_true, not_false_eq_true, MRf40 hR, GKk129 hG, GKl129 hG, hB, hE]
    · rw [if_neg c2]
      rw [if_pos rfl, bi_f (by unfold canB; omega)]
  · rw [if_neg c1, if_pos rfl, bi_f (by unfold canB; omega)]
theorem m_two (k : Nat) (hk : isB k = true) (a c : Int32) : f_X12_two Γ M (J (mch k)) a c = some (two k a c) := by
  have h1 : k = 43 ∨ k = 45 ∨ k = 42 ∨ k = 47 ∨ k = 60 ∨ k = 62 ∨ k = 61 ∨ k = 11 ∨ k = 10 := by
    simp only [isB, Bool.or_eq_true, beq_iff_eq] at hk; omega
  rcases h1 with rfl | rfl | rfl | rfl | rfl | rfl | rfl | rfl | rfl <;> simp only [mch, two, f_X12_two] <;> simp (config := { decide := true }) only [if_true, if_false] <;> repeat (first | rfl | split)
theorem m_am145 (hG : GK Γ) (hR : MR M) {r E k v : Nat} (hk : k < 1000) (hv : M.1 124 k = J v) (hv2 : v ≤ 9999)
    (hr : r < 6) (hE : M.1 129 r = J E) (hE8 : E ≤ 8) : ∀ (l : List Nat) (n p : Nat), Sg (M.1 128) p l → p + l.length = E → (∀ h, h ∈ l → h < 8) → l.length < n → f_X12_amount_145 Γ M n 102 (J k) (J r) (J p) = some (if v ∈ l then 1 else 0) := by
  intro l
  induction l with
  | nil =>
    intro n p hs he hm hn
    obtain ⟨n, rfl⟩ : ∃ k, n = k + 1 := ⟨n - 1, by simp only [List.length_nil] at hn; omega⟩
    simp only [List.length_nil] at he
    apply wp_eq
    rw [f_X12_amount_145]
    simp (disch := omega) only [wp_some, wp_ck_T, wp_ck_t, wp_bind, wp_ite_t, wp_ite_f, J_lit, J_neg, J_add, J_sub, J_mul, J_lt, J_le, J_eq, J_toInt, J_clamp, J_suc, si_1, si_2, sl_1, sl_2, sl_3, Int.toNat_natCast, Int.reduceToNat, Nat.add_sub_cancel, Int.toNat_add, Int.toNat_mul, Int.toNat_sub'', true_and, and_true, and_self, if_true, if_false, not_true, not_false_eq_true, GKk102 hG, MRf40 hR, GKk129 hG, GKl129 hG, hE]
    simp [J_lit]
  | cons x l ih =>
    intro n p hs he hm hn
    obtain ⟨n, rfl⟩ : ∃ k, n = k + 1 := ⟨n - 1, by rw [List.length_cons] at hn; omega⟩
    rw [List.length_cons] at he hn
    have hx := hm x List.mem_cons_self
    apply wp_eq
    rw [f_X12_amount_145]
    have hi := ih n (p + 1) hs.2 (by omega) (fun h hh => hm h (List.mem_cons_of_mem _ hh)) (by omega)
    by_cases e : x = v
    · subst e
      rw [if_pos List.mem_cons_self]
      simp (disch := omega) only [wp_some, wp_ck_T, wp_ck_t, wp_bind, wp_ite_t, wp_ite_f, J_lit, J_neg, J_add, J_sub, J_mul, J_lt, J_le, J_eq, J_toInt, J_clamp, J_suc, si_1, si_2, sl_1, sl_2, sl_3, Int.toNat_natCast, Int.reduceToNat, Nat.add_sub_cancel, Int.toNat_add, Int.toNat_mul, Int.toNat_sub'', true_and, and_true, and_self, if_true, if_false, not_true, not_false_eq_true, GKk102 hG, MRf40 hR, MRf39 hR, MRf30 hR, GKk129 hG, GKl129 hG, GKk128 hG, GKl128 hG, GKk124 hG, GKl124 hG, hE, hs.1, hv, hi]
    · have : (v ∈ x :: l) = (v ∈ l) := by simp [Ne.symm e]
      simp only [this]
      simp (disch := omega) only [wp_some, wp_ck_T, wp_ck_t, wp_bind, wp_ite_t, wp_ite_f, J_lit, J_neg, J_add, J_sub, J_mul, J_lt, J_le, J_eq, J_toInt, J_clamp, J_suc, si_1, si_2, sl_1, sl_2, sl_3, Int.toNat_natCast, Int.reduceToNat, Nat.add_sub_cancel, Int.toNat_add, Int.toNat_mul, Int.toNat_sub'', true_and, and_true, and_self, if_true, if_false, not_true, not_false_eq_true, GKk102 hG, MRf40 hR, MRf39 hR, MRf30 hR, GKk129 hG, GKl129 hG, GKk128 hG, GKl128 hG, GKk124 hG, GKl124 hG, hE, hs.1, hv, hi]
theorem m_amount (hG : GK Γ) (hR : MR M) (hT : TM M b T g lb) (hw : TWf T) (hA : RA M 128 0 129 0 L) (wL : WA (tR T) (tH T) L) {f m t k : Nat} {o : Nat × Nat} (hk : k < 1000) (h3 : M.1 123 k = J (mch o.1)) (h4 : M.1 124 k = J o.2) (ho : o.2 ≤ 9999) (hp : isP o.1 = true)
    (hf : f < tR T) (ht : t < tR T) (hm : m ≤ (rl L f).length) : f_X12_amount Γ M 102 (J k) (J f) (J m) (J t) = some (lawP (given T L f m t) (sg L f m) o) := by
  have hS := m_sumOf hG hR hT hw hA wL hT.2.2.2.2.2.2.2.2.2.2.2.2.2.2.2.2.1 (GKk113 hG) (GKl113 hG) hf hm
  have hW := m_sumOf hG hR hT hw hA wL hT.2.2.2.2.2.2.2.2.2.2.2.2.2.2.2.2.2.1 (GKk114 hG) (GKl114 hG) hf hm
  have hO := m_roomOn hG hR hT hw hA wL ht
  obtain ⟨w1, w2, -⟩ := hw
  have h1 := hA.2 f (by rw [wL.1]; exact hf)
  rw [Nat.zero_add] at h1
  have h2 := Sg_sg hA.1 (by rw [wL.1]; exact hf) hm
  rw [Nat.zero_add] at h2
  have h5 := wL.le (r := f + 1) (by omega)
  have h6 : (rl L f).length ≤ cum L (f + 1) := by rw [cum_succ]; omega
  have h7 := sg_len hm
  have hQ := m_am145 hG hR hk h4 ho (show f < 6 by omega) h1 (by omega) _ rhFU (cum L (f + 1) - m) h2 (by omega) (fun h hh => by have := wL.lt.mp (rl_sub (List.mem_of_mem_drop hh)); omega) (by have := FU_big; omega)
  rw [Int.ofNat_sub (by omega)] at hQ
  have hc : o.1 = 48 ∨ o.1 = 17 ∨ o.1 = 6 ∨ o.1 = 7 ∨ o.1 = 13 ∨ o.1 = 14 ∨ o.1 = 15 ∨ o.1 = 16 := by
    simp only [isP, Bool.or_eq_true, beq_iff_eq] at hp; omega
  have h8 : M.1 (M.2.2 102 29) (J k).toNatClampNeg = J (mch o.1) := by rw [MRf29 hR, J_clamp (by omega) (by omega)]; exact h3
  apply wp_eq
  rw [f_X12_amount, wp_ck_t (GKk102 hG), MRf29 hR, wp_ck_t (GKk123 hG), wp_ck_t (by rw [J_toInt (by omega) (by omega), GKl123 hG]; omega)]
  rw [MRf29 hR] at h8
  simp only [h8]
  rcases hc with e | e | e | e | e | e | e | e <;> rw [e] <;> simp only [lawP, given, e] <;>
    repeat (first | rw [wp_ite_t (by decide)] | rw [wp_ite_f (by decide)])
  · simp (disch := omega) only [wp_some, wp_ck_T, wp_ck_t, wp_bind, wp_ite_t, wp_ite_f, J_lit, J_neg, J_add, J_sub, J_mul, J_lt, J_le, J_eq, J_toInt, J_clamp, J_suc, si_1, si_2, sl_1, sl_2, sl_3, Int.toNat_natCast, Int.reduceToNat, Nat.add_sub_cancel, Int.toNat_add, Int.toNat_mul, Int.toNat_sub'', true_and, and_true, and_self, if_true, if_false, not_true, not_false_eq_true, MRf30 hR, GKk124 hG, GKl124 hG, h4, Nat.reduceEqDiff]
  · simp (disch := omega) only [wp_some, wp_ck_T, wp_ck_t, wp_bind, wp_ite_t, wp_ite_f, J_lit, J_neg, J_add, J_sub, J_mul, J_lt, J_le, J_eq, J_toInt, J_clamp, J_suc, si_1, si_2, sl_1, sl_2, sl_3, Int.toNat_natCast, Int.reduceToNat, Nat.add_sub_cancel, Int.toNat_add, Int.toNat_mul, Int.toNat_sub'', true_and, and_true, and_self, if_true, if_false, not_true, not_false_eq_true, MRf40 hR, GKk129 hG, GKl129 hG, h1, hQ, Nat.reduceEqDiff]
  · simp (disch := omega) only [wp_some, wp_ck_T, wp_ck_t, wp_bind, wp_ite_t, wp_ite_f, J_lit, J_neg, J_add, J_sub, J_mul, J_lt, J_le, J_eq, J_toInt, J_clamp, J_suc, si_1, si_2, sl_1, sl_2, sl_3, Int.toNat_natCast, Int.reduceToNat, Nat.add_sub_cancel, Int.toNat_add, Int.toNat_mul, Int.toNat_sub'', true_and, and_true, and_self, if_true, if_false, not_true, not_false_eq_true, MRf19 hR, hS, Nat.reduceEqDiff]
  · simp (disch := omega) only [wp_some, wp_ck_T, wp_ck_t, wp_bind, wp_ite_t, wp_ite_f, J_lit, J_neg, J_add, J_sub, J_mul, J_lt, J_le, J_eq, J_toInt, J_clamp, J_suc, si_1, si_2, sl_1, sl_2, sl_3, Int.toNat_natCast, Int.reduceToNat, Nat.add_sub_cancel, Int.toNat_add, Int.toNat_mul, Int.toNat_sub'', true_and, and_true, and_self, if_true, if_false, not_true, not_false_eq_true, MRf20 hR, hW, Nat.reduceEqDiff]
  · simp (disch := omega) only [wp_some, wp_ck_T, wp_ck_t, wp_bind, wp_ite_t, wp_ite_f, J_lit, J_neg, J_add, J_sub, J_mul, J_lt, J_le, J_eq, J_toInt, J_clamp, J_suc, si_1, si_2, sl_1, sl_2, sl_3, Int.toNat_natCast, Int.reduceToNat, Nat.add_sub_cancel, Int.toNat_add, Int.toNat_mul, Int.toNat_sub'', true_and, and_true, and_self, if_true, if_false, not_true, not_false_eq_true, Nat.reduceEqDiff]
  · simp (disch := omega) only [wp_some, wp_ck_T, wp_ck_t, wp_bind, wp_ite_t, wp_ite_f, J_lit, J_neg, J_add, J_sub, J_mul, J_lt, J_le, J_eq, J_toInt, J_clamp, J_suc, si_1, si_2, sl_1, sl_2, sl_3, Int.toNat_natCast, Int.reduceToNat, Nat.add_sub_cancel, Int.toNat_add, Int.toNat_mul, Int.toNat_sub'', true_and, and_true, and_self, if_true, if_false, not_true, not_false_eq_true, Nat.reduceEqDiff]
  · simp (disch := omega) only [wp_some, wp_ck_T, wp_ck_t, wp_bind, wp_ite_t, wp_ite_f, J_lit, J_neg, J_add, J_sub, J_mul, J_lt, J_le, J_eq, J_toInt, J_clamp, J_suc, si_1, si_2, sl_1, sl_2, sl_3, Int.toNat_natCast, Int.reduceToNat, Nat.add_sub_cancel, Int.toNat_add, Int.toNat_mul, Int.toNat_sub'', true_and, and_true, and_self, if_true, if_false, not_true, not_false_eq_true, Nat.reduceEqDiff]
  · simp (disch := omega) only [wp_some, wp_ck_T, wp_ck_t, wp_bind, wp_ite_t, wp_ite_f, J_lit, J_neg, J_add, J_sub, J_mul, J_lt, J_le, J_eq, J_toInt, J_clamp, J_suc, si_1, si_2, sl_1, sl_2, sl_3, Int.toNat_natCast, Int.reduceToNat, Nat.add_sub_cancel, Int.toNat_add, Int.toNat_mul, Int.toNat_sub'', true_and, and_true, and_self, if_true, if_false, not_true, not_false_eq_true, hO, Nat.reduceEqDiff]
end
