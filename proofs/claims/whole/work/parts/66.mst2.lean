theorem Sg_eq {f f' : Nat → Int32} (h : f' = f) {p : Nat} {l : List Nat} (hs : Sg f p l) : Sg f' p l := h ▸ hs
theorem TM.fr {M M' : rhM} {b : Nat} {T : Tn} {g lb : Int} {W : List Nat} (h : TM M b T g lb) (hF : Fr W M M') (h34 : M'.1 102 34 = M.1 102 34) (h44 : M'.1 102 44 = M.1 102 44) (h45 : M'.1 102 45 = M.1 102 45)
    (hd : ∀ r, r ∈ [105, 106, 109, 110, 108, 119, 111, 112, 113, 114, 115, 116, 123, 124] → r ∉ W) : TM M' b T g lb := by
  unfold TM
  rw [h34, h44, h45, hF.i (hd 105 (by decide)), hF.i (hd 106 (by decide)), hF.i (hd 109 (by decide)), hF.i (hd 110 (by decide)), hF.i (hd 108 (by decide)), hF.i (hd 119 (by decide)), hF.i (hd 111 (by decide)), hF.i (hd 112 (by decide)), hF.i (hd 113 (by decide)), hF.i (hd 114 (by decide)), hF.i (hd 115 (by decide)), hF.i (hd 116 (by decide)), hF.i (hd 123 (by decide)), hF.i (hd 124 (by decide))]
  exact h
theorem RA.fr {M M' : rhM} {a oa b ob : Nat} {L : Ar} {W : List Nat} (h : RA M a oa b ob L) (hF : Fr W M M') (ha : a ∉ W) (hb : b ∉ W) : RA M' a oa b ob L := by
  unfold RA
  rw [hF.i ha, hF.i hb]
  exact h
theorem MR.fr {M M' : rhM} {W : List Nat} (h : MR M) (hF : Fr W M M') : MR M' := by
  intro f h1 h2; rw [hF.1]; exact h f h1 h2
theorem J_eq0 {x : Int32} (h : x = 0) : (x = J 0) = True := eq_true h
theorem J_ne0 {x : Int32} (h : ¬ x = 0) : (x = J 0) = False := by simp only [eq_iff_iff, iff_false]; exact h
def Stk (f : Nat → Int32) : List Int32 → Prop
  | [] => True
  | x :: r => f r.length = x ∧ Stk f r
theorem Stk_cong {f g : Nat → Int32} : ∀ (st : List Int32), (∀ i, i < st.length → g i = f i) → Stk f st → Stk g st
  | [], _, _ => trivial
  | x :: r, h, hs => ⟨(h r.length (by rw [List.length_cons]; omega)).trans hs.1, Stk_cong r (fun i hi => h i (by rw [List.length_cons]; omega)) hs.2⟩
section
variable {Γ : rhG} {M : rhM} {b : Nat} {T : Tn} {g lb : Int} {L : Ar}
theorem m_let_t {x : Int} (h : 97 ≤ x) (h2 : x ≤ 122) : f_X12_isLetter Γ M (J x) = some 1 := by
  apply wp_eq
  rw [f_X12_isLetter]
  simp (disch := omega) only [wp_some, wp_ck_T, wp_ck_t, wp_bind, wp_ite_t, wp_ite_f, J_lit, J_neg, J_add, J_sub, J_mul, J_lt, J_le, J_eq, J_toInt, J_clamp, J_suc, si_1, si_2, sl_1, sl_2, sl_3, Int.toNat_natCast, Int.reduceToNat, Nat.add_sub_cancel, Int.toNat_add, Int.toNat_mul, Int.toNat_sub'', true_and, and_true, and_self, if_true, if_false, not_true, not_false_eq_true]
theorem m_let_f {x : Int} (h : -2147483648 ≤ x) (h2 : x < 2147483648) (h3 : x < 97 ∨ 122 < x) : f_X12_isLetter Γ M (J x) = some 0 := by
  apply wp_eq
  rw [f_X12_isLetter]
  by_cases c1 : x < 97
  · simp (disch := omega) only [wp_some, wp_ck_T, wp_ck_t, wp_bind, wp_ite_t, wp_ite_f, J_lit, J_neg, J_add, J_sub, J_mul, J_lt, J_le, J_eq, J_toInt, J_clamp, J_suc, si_1, si_2, sl_1, sl_2, sl_3, Int.toNat_natCast, Int.reduceToNat, Nat.add_sub_cancel, Int.toNat_add, Int.toNat_mul, Int.toNat_sub'', true_and, and_true, and_self, if_true, if_false, not_true, not_false_eq_true]
  · simp (disch := omega) only [wp_some, wp_ck_T, wp_ck_t, wp_bind, wp_ite_t, wp_ite_f, J_lit, J_neg, J_add, J_sub, J_mul, J_lt, J_le, J_eq, J_toInt, J_clamp, J_suc, si_1, si_2, sl_1, sl_2, sl_3, Int.toNat_natCast, Int.reduceToNat, Nat.add_sub_cancel, Int.toNat_add, Int.toNat_mul, Int.toNat_sub'', true_and, and_true, and_self, if_true, if_false, not_true, not_false_eq_true]
theorem mch_P {k : Nat} (h : isP k = true) : 97 ≤ mch k ∧ mch k ≤ 122 := by
  have hc : k = 48 ∨ k = 17 ∨ k = 6 ∨ k = 7 ∨ k = 13 ∨ k = 14 ∨ k = 15 ∨ k = 16 := by
    simp only [isP, Bool.or_eq_true, beq_iff_eq] at h; omega
  rcases hc with e | e | e | e | e | e | e | e <;> rw [e] <;> decide
theorem mch_B {k : Nat} (h : isB k = true) : mch k < 97 ∨ mch k = 124 := by
  have hc : k = 43 ∨ k = 45 ∨ k = 42 ∨ k = 47 ∨ k = 60 ∨ k = 62 ∨ k = 61 ∨ k = 11 ∨ k = 10 := by
    simp only [isB, Bool.or_eq_true, beq_iff_eq] at h; omega
  rcases hc with e | e | e | e | e | e | e | e | e <;> rw [e] <;> decide
theorem m_comes27 (hG : GK Γ) (hw : TWf T) (wL : WA (tR T) (tH T) L) {f m t : Nat} (hf : f < tR T) (ht : t < tR T) (hm : m ≤ (rl L f).length) : ∀ (c : List (Nat × Nat)) (n : Nat) (M : rhM) (k : Nat) (st : List Int32), MR M → TM M b T g lb → RA M 128 0 129 0 L →
    Stk (M.1 127) st → lawD c st.length = some 1 → st.length ≤ 60 → Sg (M.1 123) k (c.map fun o => mch o.1) → Sg (M.1 124) k (c.map fun o => o.2) → (∀ o, o ∈ c → o.2 ≤ 9999) → k + c.length = 500 * b + (tC T).length → c.length < n →
    wp (f_X12_comes_27 Γ n M 102 (J f) (J m) (J t) (J st.length) (J k)) (fun r => r.1 = (lawR (given T L f m t) (sg L f m) c st).headD 1 ∧ Fr [127] M r.2) := by
  intro c
  have hb : (tC T).length ≤ 400 := hw.2.2.2.2.2.2.2.2.2.1
  induction c with
  | nil =>
    intro n M k st hR hT hA hS hD hd h123 h124 ho hk hn
    obtain ⟨n, rfl⟩ : ∃ k, n = k + 1 := ⟨n - 1, by simp only [List.length_nil] at hn; omega⟩
    have hb1 := hT.1
    have e34 := hT.2.1
    have e111 := hT.2.2.2.2.2.2.2.2.1
    simp only [lawD, Option.some.injEq] at hD
    match st, hD with
    | [x], _ =>
      simp only [List.length_nil] at hk
      rw [f_X12_comes_27]
      have h0 : M.1 127 0 = x := hS.1
      simp (disch := omega) only [f_X12_comes_27, GKk102 hG, MRf17 hR, GKk111 hG, GKl111 hG, MRf29 hR, GKk123 hG, GKl123 hG, MRf33 hR, GKk127 hG, GKl127 hG, wp_some, wp_ck_T, wp_ck_t, wp_bind, wp_ite_t, wp_ite_f, J_lit, J_neg, J_add, J_sub, J_mul, J_lt, J_le, J_eq, J_toInt, J_clamp, J_suc, si_1, si_2, sl_1, sl_2, sl_3, Int.toNat_natCast, Int.reduceToNat, Nat.add_sub_cancel, Int.toNat_add, Int.toNat_mul, Int.toNat_sub'', true_and, and_true, and_self, if_true, if_false, not_true, not_false_eq_true, e34, e111, h0]
      exact ⟨rfl, Fr.refl _ _⟩
  | cons o c ih =>
    intro n M k st hR hT hA hS hD hd h123 h124 ho hk hn
    rw [List.length_cons] at hk hn
    obtain ⟨n, rfl⟩ : ∃ k, n = k + 1 := ⟨n - 1, by omega⟩
    have hb1 := hT.1
    have e34 := hT.2.1
    have e111 := hT.2.2.2.2.2.2.2.2.1
    have hk2 : k < 1000 := by omega
    have x123 : M.1 123 k = J (mch o.1) := h123.1
    have x124 : M.1 124 k = J o.2 := h124.1
    rw [f_X12_comes_27]
    -- one step: the new value v at place q of the pile
    have step : ∀ (q : Nat) (v : Int32) (st' : List Int32), lawS (given T L f m t) (sg L f m) st o = v :: st' → q = st'.length → lawD c (st'.length + 1) = some 1 → st'.length + 1 ≤ 60 → Stk (M.1 127) st' →
        wp (f_X12_comes_27 Γ n (rhsi M 127 q v) 102 (J f) (J m) (J t) (J ((st'.length + 1 : Nat) : Int)) (J ((k + 1 : Nat) : Int))) (fun r => r.1 = (lawR (given T L f m t) (sg L f m) (o :: c) st).headD 1 ∧ Fr [127] M r.2) := by
      intro q v st' e1 e2 e3 e4 e5
      have hF : Fr [127] M (rhsi M 127 q v) := (Fr.refl _ _).si (by simp) _ _
      refine (ih n (rhsi M 127 q v) (k + 1) (v :: st') hR (hT.fr hF rfl rfl rfl (by decide)) (hA.fr hF (by decide) (by decide)) ?_ e3 e4 h123.2 h124.2 (fun o ho' => ho o (List.mem_cons_of_mem _ ho')) (by omega) (by omega)).mono (fun r hr => ⟨?_, hF.trans hr.2⟩)
      · refine ⟨?_, Stk_cong st' (fun i hi => ?_) e5⟩
        · rw [si_1, if_pos ⟨rfl, e2.symm⟩]
        · rw [si_1, if_neg (by omega)]
      · rw [lawR, e1]; exact hr.1
    by_cases hp : isP o.1 = true
    · have hl := mch_P hp
      have hA2 := m_amount hG hR hT hw hA wL hk2 x123 x124 (ho o List.mem_cons_self) hp hf ht hm
      have hD2 : st.length < 60 ∧ lawD c (st.length + 1) = some 1 := by
        rw [lawD, if_pos hp] at hD
        split at hD
        · exact ⟨by assumption, hD⟩
        · cases hD
      simp (disch := omega) only [f_X12_comes_27, GKk102 hG, MRf17 hR, GKk111 hG, GKl111 hG, MRf29 hR, GKk123 hG, GKl123 hG, MRf33 hR, GKk127 hG, GKl127 hG, f_X12_comes_149, wp_some, wp_ck_T, wp_ck_t, wp_bind, wp_ite_t, wp_ite_f, J_lit, J_neg, J_add, J_sub, J_mul, J_lt, J_le, J_eq, J_toInt, J_clamp, J_suc, si_1, si_2, sl_1, sl_2, sl_3, Int.toNat_natCast, Int.reduceToNat, Nat.add_sub_cancel, Int.toNat_add, Int.toNat_mul, Int.toNat_sub'', true_and, and_true, and_self, if_true, if_false, not_true, not_false_eq_true, e34, e111, x123, m_let_t, m_let_f, hA2]
      exact step st.length _ st (by unfold lawS; rw [if_pos hp]) rfl hD2.2 (by omega) hS
    · by_cases hn : o.1 = 12
      · have hm' : mch o.1 = 126 := by rw [hn]; rfl
        have hD2 : 1 ≤ st.length ∧ lawD c st.length = some 1 := by
          rw [lawD, if_neg hp, if_pos hn] at hD
          split at hD
          · exact ⟨by assumption, hD⟩
          · cases hD
        match st, hS, hD2, hd with
        | x :: st', hS, hD2, hd =>
          rw [List.length_cons] at *
          have h0 : M.1 127 st'.length = x := hS.1
          rw [hm'] at x123
          by_cases hx : x = 0
          · simp (disch := omega) only [f_X12_comes_27, GKk102 hG, MRf17 hR, GKk111 hG, GKl111 hG, MRf29 hR, GKk123 hG, GKl123 hG, MRf33 hR, GKk127 hG, GKl127 hG, f_X12_comes_82, f_X12_comes_149, wp_some, wp_ck_T, wp_ck_t, wp_bind, wp_ite_t, wp_ite_f, J_lit, J_neg, J_add, J_sub, J_mul, J_lt, J_le, J_eq, J_toInt, J_clamp, J_suc, si_1, si_2, sl_1, sl_2, sl_3, Int.toNat_natCast, Int.reduceToNat, Nat.add_sub_cancel, Int.toNat_add, Int.toNat_mul, Int.toNat_sub'', true_and, and_true, and_self, if_true, if_false, not_true, not_false_eq_true, e34, e111, x123, h0, J_eq0 hx, show ((126 : Nat) : Int) = 126 from rfl, show ((st'.length + 1 : Nat) : Int) - 1 = st'.length by omega]
            exact step st'.length 1 st' (by unfold lawS; rw [if_neg hp, if_pos hn]; simp only [if_pos hx]) rfl hD2.2 (by omega) hS.2
          · simp (disch := omega) only [f_X12_comes_27, GKk102 hG, MRf17 hR, GKk111 hG, GKl111 hG, MRf29 hR, GKk123 hG, GKl123 hG, MRf33 hR, GKk127 hG, GKl127 hG, f_X12_comes_82, f_X12_comes_149, wp_some, wp_ck_T, wp_ck_t, wp_bind, wp_ite_t, wp_ite_f, J_lit, J_neg, J_add, J_sub, J_mul, J_lt, J_le, J_eq, J_toInt, J_clamp, J_suc, si_1, si_2, sl_1, sl_2, sl_3, Int.toNat_natCast, Int.reduceToNat, Nat.add_sub_cancel, Int.toNat_add, Int.toNat_mul, Int.toNat_sub'', true_and, and_true, and_self, if_true, if_false, not_true, not_false_eq_true, e34, e111, x123, h0, J_ne0 hx, show ((126 : Nat) : Int) = 126 from rfl, show ((st'.length + 1 : Nat) : Int) - 1 = st'.length by omega]
            exact step st'.length 0 st' (by unfold lawS; rw [if_neg hp, if_pos hn]; simp only [if_neg hx]) rfl hD2.2 (by omega) hS.2
      · have hD2 : isB o.1 = true ∧ 2 ≤ st.length ∧ lawD c (st.length - 1) = some 1 := by
          rw [lawD, if_neg hp, if_neg hn] at hD
          split at hD
          · split at hD
            · exact ⟨by assumption, by assumption, hD⟩
            · cases hD
          · cases hD
        have hl := mch_B hD2.1
        have h2 := m_two (Γ := Γ) (M := M) o.1 hD2.1
        match st, hS, hD2, hd with
        | y :: x :: st', hS, hD2, hd =>
          simp only [List.length_cons, Nat.add_sub_cancel] at *
          have h0 : M.1 127 (st'.length + 1) = y := hS.1
          have h1 : M.1 127 st'.length = x := hS.2.1
          have h3 : ((st'.length + 1 + 1 : Nat) : Int) + -1 = ((st'.length + 1 : Nat) : Int) := by omega
          have h4 : ((st'.length + 1 : Nat) : Int) - 1 = st'.length := by omega
          simp (disch := omega) only [f_X12_comes_27, GKk102 hG, MRf17 hR, GKk111 hG, GKl111 hG, MRf29 hR, GKk123 hG, GKl123 hG, MRf33 hR, GKk127 hG, GKl127 hG, f_X12_comes_149, wp_some, wp_ck_T, wp_ck_t, wp_bind, wp_ite_t, wp_ite_f, J_lit, J_neg, J_add, J_sub, J_mul, J_lt, J_le, J_eq, J_toInt, J_clamp, J_suc, si_1, si_2, sl_1, sl_2, sl_3, Int.toNat_natCast, Int.reduceToNat, Nat.add_sub_cancel, Int.toNat_add, Int.toNat_mul, Int.toNat_sub'', true_and, and_true, and_self, if_true, if_false, not_true, not_false_eq_true, e34, e111, x123, m_let_t, m_let_f, h3, h4, h0, h1, h2]
          exact step st'.length _ st' (by unfold lawS; rw [if_neg hp, if_neg hn]) rfl hD2.2.2 (by omega) hS.2.2
theorem m_comes (hG : GK Γ) (hR : MR M) (hT : TM M b T g lb) (hw : TWf T) (hA : RA M 128 0 129 0 L) (wL : WA (tR T) (tH T) L) {f m t : Nat} (hf : f < tR T) (ht : t < tR T) (hm : m ≤ (rl L f).length) :
    wp (f_X12_comes Γ M 102 (J f) (J m) (J t)) (fun r => r.1 = comes T L f m t ∧ Fr [127] M r.2) := by
  have hb1 := hT.1
  have e34 := hT.2.1
  have e119 := hT.2.2.2.2.2.2.2.1
  have e123 := hT.2.2.2.2.2.2.2.2.2.2.2.2.2.2.2.2.2.2.2.2.1
  have e124 := hT.2.2.2.2.2.2.2.2.2.2.2.2.2.2.2.2.2.2.2.2.2
  rw [f_X12_comes]
  by_cases h : tC T = []
  · rw [if_pos h] at e119
    simp (disch := omega) only [f_X12_comes, GKk102 hG, MRf25 hR, GKk119 hG, GKl119 hG, wp_some, wp_ck_T, wp_ck_t, wp_bind, wp_ite_t, wp_ite_f, J_lit, J_neg, J_add, J_sub, J_mul, J_lt, J_le, J_eq, J_toInt, J_clamp, J_suc, si_1, si_2, sl_1, sl_2, sl_3, Int.toNat_natCast, Int.reduceToNat, Nat.add_sub_cancel, Int.toNat_add, Int.toNat_mul, Int.toNat_sub'', true_and, and_true, and_self, if_true, if_false, not_true, not_false_eq_true, e34, e119]
    exact ⟨by unfold comes; rw [h]; rfl, Fr.refl _ _⟩
  · rw [if_neg h] at e119
    have hd := hw.2.2.2.2.2.2.2.1
    have hc := fun o ho => (hw.2.2.2.2.2.2.2.2.1 o ho).1
    have := m_comes27 hG hw wL hf ht hm (tC T) rhFU M (500 * b) [] hR hT hA trivial (hd.resolve_left h) (by simp) e123 e124 hc rfl (by have := FU_big; have := hw.2.2.2.2.2.2.2.2.2.1; omega)
    simp (disch := omega) only [f_X12_comes, GKk102 hG, MRf25 hR, GKk119 hG, GKl119 hG, wp_some, wp_ck_T, wp_ck_t, wp_bind, wp_ite_t, wp_ite_f, J_lit, J_neg, J_add, J_sub, J_mul, J_lt, J_le, J_eq, J_toInt, J_clamp, J_suc, si_1, si_2, sl_1, sl_2, sl_3, Int.toNat_natCast, Int.reduceToNat, Nat.add_sub_cancel, Int.toNat_add, Int.toNat_mul, Int.toNat_sub'', true_and, and_true, and_self, if_true, if_false, not_true, not_false_eq_true, e34, e119]
    exact this
theorem WA.rl_len {R H : Nat} {L : Ar} (w : WA R H L) {r : Nat} (h : r < R) : (rl L r).length ≤ H := by
  have h1 := w.le (r := r + 1) (by omega)
  rw [cum_succ] at h1; omega
theorem sl_le (hw : TWf T) (wL : WA (tR T) (tH T) L) {r : Nat} (h : r < tR T) : sm (tl T) (rl L r) ≤ 72 ∧ sm (tw T) (rl L r) ≤ 792 := by
  have h1 := wL.rl_len h
  have hh := hw.2.1
  have h5 := hw.2.2.2.2.2.1
  have h2 := sm_le (g := tl T) (c := 9) (l := rl L r) (fun x hx => (h5 x (wL.lt.mp (rl_sub hx))).2.1)
  have h3 := sm_le (g := tw T) (c := 99) (l := rl L r) (fun x hx => (h5 x (wL.lt.mp (rl_sub hx))).2.2.2.1)
  omega
theorem sg_le (g : Nat → Nat) {f m : Nat} (hm : m ≤ (rl L f).length) : sm g (sg L f m) ≤ sm g (rl L f) := by
  rw [sg_split hm, sm_app]; omega
theorem room_rng (hw : TWf T) (wL : WA (tR T) (tH T) L) {r : Nat} (h : r < tR T) : -72 ≤ room T L r ∧ room T L r ≤ 300 := by
  have h1 := (sl_le hw wL h).1
  have h2 := hw.2.2.2.2.1 r h
  unfold room; omega
theorem m_isLawful (hG : GK Γ) (hR : MR M) (hT : TM M b T g lb) (hw : TWf T) (hA : RA M 128 0 129 0 L) (wL : WA (tR T) (tH T) L) (f m t : Int32) :
    wp (f_X12_isLawful Γ M 102 f m t) (fun r => r.1 = bi (0 ≤ f.toInt ∧ 0 ≤ t.toInt ∧ 1 ≤ m.toInt ∧ okP T L f.toInt.toNat m.toInt.toNat t.toInt.toNat) ∧ Fr [127] M r.2) := by
  have hC := m_canBe hG hR hT hw hA wL f m t
  rw [f_X12_isLawful, wp_ck_t (GKk102 hG), hC, wp_bind, wp_some]
  by_cases c : 0 ≤ f.toInt ∧ 0 ≤ t.toInt ∧ 1 ≤ m.toInt ∧ canB T L f.toInt.toNat m.toInt.toNat t.toInt.toNat
  · rw [bi_t c, wp_ite_f (by decide)]
    obtain ⟨c1, c2, c3, c4⟩ := c
    have hf := fb_rng' f
    have ht := fb_rng' t
    have hm := fb_rng' m
    obtain ⟨a, ha⟩ : ∃ a : Nat, f.toInt = a := ⟨f.toInt.toNat, by omega⟩
    obtain ⟨q, hq⟩ : ∃ a : Nat, m.toInt = a := ⟨m.toInt.toNat, by omega⟩
    obtain ⟨z, hz⟩ : ∃ a : Nat, t.toInt = a := ⟨t.toInt.toNat, by omega⟩
    rw [← J_of f, ← J_of m, ← J_of t, ha, hq, hz]
    rw [ha, hq, hz] at c4
    simp only [J_toInt (show -2147483648 ≤ (a : Int) by omega) (by omega), J_toInt (show -2147483648 ≤ (q : Int) by omega) (by omega), J_toInt (show -2147483648 ≤ (z : Int) by omega) (by omega), Int.toNat_natCast] at *
    have c5 := c4
    obtain ⟨d1, d2, d3, d4, d5⟩ := c5
    have hS := m_sumOf hG hR hT hw hA wL hT.2.2.2.2.2.2.2.2.2.2.2.2.2.2.2.2.1 (GKk113 hG) (GKl113 hG) d1 d5
    have hW := m_sumOf hG hR hT hw hA wL hT.2.2.2.2.2.2.2.2.2.2.2.2.2.2.2.2.2.1 (GKk114 hG) (GKl114 hG) d1 d5
    have hO := m_roomOn hG hR hT hw hA wL d2
    have hQ := m_comes hG hR hT hw hA wL d1 d2 d5
    have b1 := sl_le hw wL d1
    have b2 := sg_le (tl T) d5
    have b3 := sg_le (tw T) d5
    have b4 := room_rng hw wL d2
    have b5 := hw.2.2.1
    have b6 := hw.2.2.2.1
    have hb1 := hT.1
    have e34 := hT.2.1
    have e109 := hT.2.2.2.2.1
    have e110 := hT.2.2.2.2.2.1
    by_cases k1 : tN T < sm (tl T) (sg L a q)
    · rw [bi_f (by unfold okP; omega)]
      simp (disch := omega) only [wp_some, wp_ck_T, wp_ck_t, wp_bind, wp_ite_t, wp_ite_f, J_lit, J_neg, J_add, J_sub, J_mul, J_lt, J_le, J_eq, J_toInt, J_clamp, J_suc, si_1, si_2, sl_1, sl_2, sl_3, Int.toNat_natCast, Int.reduceToNat, Nat.add_sub_cancel, Int.toNat_add, Int.toNat_mul, Int.toNat_sub'', true_and, and_true, and_self, if_true, if_false, not_true, not_false_eq_true, MRf19 hR, MRf15 hR, MRf16 hR, MRf20 hR, GKk109 hG, GKl109 hG, GKk110 hG, GKl110 hG, e34, e109, e110, hS, hW, hO]
      exact Fr.refl _ _
    by_cases k2 : room T L z < sm (tl T) (sg L a q)
    · rw [bi_f (by unfold okP; omega)]
      simp (disch := omega) only [wp_some, wp_ck_T, wp_ck_t, wp_bind, wp_ite_t, wp_ite_f, J_lit, J_neg, J_add, J_sub, J_mul, J_lt, J_le, J_eq, J_toInt, J_clamp, J_suc, si_1, si_2, sl_1, sl_2, sl_3, Int.toNat_natCast, Int.reduceToNat, Nat.add_sub_cancel, Int.toNat_add, Int.toNat_mul, Int.toNat_sub'', true_and, and_true, and_self, if_true, if_false, not_true, not_false_eq_true, MRf19 hR, MRf15 hR, MRf16 hR, MRf20 hR, GKk109 hG, GKl109 hG, GKk110 hG, GKl110 hG, e34, e109, e110, hS, hW, hO]
      exact Fr.refl _ _
    by_cases k3 : tD T < sm (tw T) (sg L a q)
    · rw [bi_f (by unfold okP; omega)]
      simp (disch := omega) only [wp_some, wp_ck_T, wp_ck_t, wp_bind, wp_ite_t, wp_ite_f, J_lit, J_neg, J_add, J_sub, J_mul, J_lt, J_le, J_eq, J_toInt, J_clamp, J_suc, si_1, si_2, sl_1, sl_2, sl_3, Int.toNat_natCast, Int.reduceToNat, Nat.add_sub_cancel, Int.toNat_add, Int.toNat_mul, Int.toNat_sub'', true_and, and_true, and_self, if_true, if_false, not_true, not_false_eq_true, MRf19 hR, MRf15 hR, MRf16 hR, MRf20 hR, GKk109 hG, GKl109 hG, GKk110 hG, GKl110 hG, e34, e109, e110, hS, hW, hO]
      exact Fr.refl _ _
    simp (disch := omega) only [wp_some, wp_ck_T, wp_ck_t, wp_bind, wp_ite_t, wp_ite_f, J_lit, J_neg, J_add, J_sub, J_mul, J_lt, J_le, J_eq, J_toInt, J_clamp, J_suc, si_1, si_2, sl_1, sl_2, sl_3, Int.toNat_natCast, Int.reduceToNat, Nat.add_sub_cancel, Int.toNat_add, Int.toNat_mul, Int.toNat_sub'', true_and, and_true, and_self, if_true, if_false, not_true, not_false_eq_true, MRf19 hR, MRf15 hR, MRf16 hR, MRf20 hR, GKk109 hG, GKl109 hG, GKk110 hG, GKl110 hG, e34, e109, e110, hS, hW, hO]
    refine hQ.mono (fun r hr => ?_)
    rw [hr.1]
    by_cases k4 : comes T L a q z = 0
    · rw [wp_ite_t (show comes T L a q z = J 0 from k4), wp_some]
      exact ⟨(bi_f (fun h => h.2.2.2.2.2.2.2 k4)).symm, hr.2⟩
    · rw [wp_ite_f (show ¬ comes T L a q z = J 0 from k4), wp_some]
      exact ⟨(bi_t (by unfold okP; exact ⟨by omega, by omega, by omega, c4, by omega, by omega, by omega, k4⟩)).symm, hr.2⟩
  · rw [bi_f c, wp_ite_t rfl, wp_some]
    refine ⟨(bi_f ?_).symm, Fr.refl _ _⟩
    intro h; exact c ⟨h.1, h.2.1, h.2.2.1, h.2.2.2.1⟩
/-! a pull -/
theorem m_mv13 (hG : GK Γ) {f m t : Int32} {mm first : Nat} (hm : m = J mm) (hm8 : mm ≤ 8) (hfm : first + mm ≤ 8) (K : rhM → Nat → Int32 → Int32 → Int32 → Int32 → Option rhM) (Q : rhM → Prop) : ∀ (n : Nat) (M : rhM) (k : Nat), MR M → k ≤ mm → mm - k < n →
    (∀ M', Fr [130] M M' → (∀ i, k ≤ i → i < mm → M'.1 130 i = M.1 128 (first + i)) → (∀ i, i < k → M'.1 130 i = M.1 130 i) → wp (K M' 102 f m t (J first)) Q) →
    wp (f_X12_moves_13 K Γ n M 102 f m t (J first) (J k)) Q := by
  intro n
  induction n with
  | zero => intro M k _ _ h; omega
  | succ n ih =>
    intro M k hR hk hn hK
    rw [f_X12_moves_13, hm]
    by_cases h : k < mm
    · simp (disch := omega) only [f_X12_moves_13, GKk102 hG, MRf39 hR, GKk128 hG, GKl128 hG, MRf41 hR, GKk130 hG, GKl130 hG, wp_some, wp_ck_T, wp_ck_t, wp_bind, wp_ite_t, wp_ite_f, J_lit, J_neg, J_add, J_sub, J_mul, J_lt, J_le, J_eq, J_toInt, J_clamp, J_suc, si_1, si_2, sl_1, sl_2, sl_3, Int.toNat_natCast, Int.reduceToNat, Nat.add_sub_cancel, Int.toNat_add, Int.toNat_mul, Int.toNat_sub'', true_and, and_true, and_self, if_true, if_false, not_true, not_false_eq_true]
      have hF : Fr [130] M (rhsi M 130 k (M.1 128 (first + k))) := (Fr.refl _ _).si (by simp) _ _
      rw [← hm]
      refine ih _ (k + 1) hR (by omega) (by omega) (fun M' h1 h2 h3 => hK M' (hF.trans h1) (fun i hi hi2 => ?_) (fun i hi => ?_))
      · by_cases e : i = k
        · subst e; rw [h3 _ (by omega), si_1, if_pos ⟨rfl, rfl⟩]
        · rw [h2 i (by omega) hi2, si_1, if_neg (by omega)]
      · rw [h3 _ (by omega), si_1, if_neg (by omega)]
    · simp (disch := omega) only [wp_some, wp_ck_T, wp_ck_t, wp_bind, wp_ite_t, wp_ite_f, J_lit, J_neg, J_add, J_sub, J_mul, J_lt, J_le, J_eq, J_toInt, J_clamp, J_suc, si_1, si_2, sl_1, sl_2, sl_3, Int.toNat_natCast, Int.reduceToNat, Nat.add_sub_cancel, Int.toNat_add, Int.toNat_mul, Int.toNat_sub'', true_and, and_true, and_self, if_true, if_false, not_true, not_false_eq_true]
      rw [← hm]
      exact hK M (Fr.refl _ _) (fun i h1 h2 => by omega) (fun _ _ => rfl)
theorem m_mv51 (hG : GK Γ) {f m t : Int32} {mm tt E : Nat} (hm : m = J mm) (ht : t = J tt) (htt : tt < 6) (hm1 : 1 ≤ mm) (hE : E ≤ 8) (K : rhM → Nat → Int32 → Int32 → Int32 → Option rhM) (Q : rhM → Prop) : ∀ (n : Nat) (M : rhM) (k : Nat) (l : List Nat), MR M → M.1 129 tt = J E → Sg (M.1 128) (k + mm) l → k + mm + l.length = E → l.length < n →
    (∀ M', Fr [128] M M' → Sg (M'.1 128) k l → (∀ i, i < k ∨ k + l.length ≤ i → M'.1 128 i = M.1 128 i) → wp (K M' 102 f m t) Q) →
    wp (f_X12_moves_51 K Γ n M 102 f m t (J k)) Q := by
  intro n
  induction n with
  | zero => intro M k l _ _ _ _ h; omega
  | succ n ih =>
    intro M k l hR h129 hs hl hn hK
    rw [f_X12_moves_51, hm, ht]
    match l, hs, hl, hn, hK with
    | [], hs, hl, hn, hK =>
      simp only [List.length_nil] at hl hK
      simp (disch := omega) only [f_X12_moves_51, GKk102 hG, MRf39 hR, GKk128 hG, GKl128 hG, MRf40 hR, GKk129 hG, GKl129 hG, wp_some, wp_ck_T, wp_ck_t, wp_bind, wp_ite_t, wp_ite_f, J_lit, J_neg, J_add, J_sub, J_mul, J_lt, J_le, J_eq, J_toInt, J_clamp, J_suc, si_1, si_2, sl_1, sl_2, sl_3, Int.toNat_natCast, Int.reduceToNat, Nat.add_sub_cancel, Int.toNat_add, Int.toNat_mul, Int.toNat_sub'', true_and, and_true, and_self, if_true, if_false, not_true, not_false_eq_true, h129]
      rw [← hm, ← ht]
      exact hK M (Fr.refl _ _) trivial (fun _ _ => rfl)
    | x :: l, hs, hl, hn, hK =>
      rw [List.length_cons] at hl hn hK
      simp (disch := omega) only [f_X12_moves_51, GKk102 hG, MRf39 hR, GKk128 hG, GKl128 hG, MRf40 hR, GKk129 hG, GKl129 hG, wp_some, wp_ck_T, wp_ck_t, wp_bind, wp_ite_t, wp_ite_f, J_lit, J_neg, J_add, J_sub, J_mul, J_lt, J_le, J_eq, J_toInt, J_clamp, J_suc, si_1, si_2, sl_1, sl_2, sl_3, Int.toNat_natCast, Int.reduceToNat, Nat.add_sub_cancel, Int.toNat_add, Int.toNat_mul, Int.toNat_sub'', true_and, and_true, and_self, if_true, if_false, not_true, not_false_eq_true, h129, hs.1]
      have hF : Fr [128] M (rhsi M 128 k (J x)) := (Fr.refl _ _).si (by simp) _ _
      rw [← hm, ← ht]
      refine ih _ (k + 1) l hR (by rw [hF.i (by decide)]; exact h129) ?_ (by omega) (by omega) (fun M' h1 h2 h3 => hK M' (hF.trans h1) ⟨?_, h2⟩ (fun i hi => ?_))
      · rw [show k + 1 + mm = k + mm + 1 by omega]
        exact Sg_cong l _ (fun i h1 h2 => by rw [si_1, if_neg (by omega)]) hs.2
      · rw [h3 _ (by omega), si_1, if_pos ⟨rfl, rfl⟩]
      · rw [h3 _ (by omega), si_1, if_neg (by omega)]
theorem m_mv121 (hG : GK Γ) {f m t : Int32} {mm tt E : Nat} (hm : m = J mm) (ht : t = J tt) (htt : tt < 6) (hm1 : 1 ≤ mm) (K : rhM → Nat → Int32 → Int32 → Int32 → Option rhM) (Q : rhM → Prop) : ∀ (n : Nat) (M : rhM) (l : List Nat), MR M → M.1 129 tt = J E → Sg (M.1 128) E l → E + mm + l.length ≤ 8 → l.length < n →
    (∀ M', Fr [128] M M' → Sg (M'.1 128) (E + mm) l → (∀ i, i < E + mm ∨ E + mm + l.length ≤ i → M'.1 128 i = M.1 128 i) → wp (K M' 102 f m t) Q) →
    wp (f_X12_moves_121 K Γ n M 102 f m t (J ((E : Int) + l.length - 1))) Q := by
  intro n
  induction n with
  | zero => intro M l _ _ _ _ h; omega
  | succ n ih =>
    intro M l hR h129 hs hl hn hK
    rw [f_X12_moves_121, hm, ht]
    rcases List.eq_nil_or_concat l with rfl | ⟨l', x, rfl⟩
    · simp only [List.length_nil] at hl hK
      simp only [List.length_nil]
      simp (disch := omega) only [f_X12_moves_121, GKk102 hG, MRf39 hR, GKk128 hG, GKl128 hG, MRf40 hR, GKk129 hG, GKl129 hG, wp_some, wp_ck_T, wp_ck_t, wp_bind, wp_ite_t, wp_ite_f, J_lit, J_neg, J_add, J_sub, J_mul, J_lt, J_le, J_eq, J_toInt, J_clamp, J_suc, si_1, si_2, sl_1, sl_2, sl_3, Int.toNat_natCast, Int.reduceToNat, Nat.add_sub_cancel, Int.toNat_add, Int.toNat_mul, Int.toNat_sub'', true_and, and_true, and_self, if_true, if_false, not_true, not_false_eq_true, h129]
      rw [← hm, ← ht]
      exact hK M (Fr.refl _ _) trivial (fun _ _ => rfl)
    · rw [List.concat_eq_append, List.length_append, List.length_singleton] at hl hn hK
      rw [List.concat_eq_append, Sg_app] at hs
      rw [List.concat_eq_append, List.length_append, List.length_singleton]
      have hx : M.1 128 (E + l'.length) = J x := hs.2.1
      have e1 : ((E : Int) + ((l'.length + 1 : Nat) : Int) - 1) = ((E + l'.length : Nat) : Int) := by omega
      rw [e1]
      have e2 : ((E + l'.length : Nat) : Int) + -1 = (E : Int) + l'.length - 1 := by omega
      simp (disch := omega) only [f_X12_moves_121, GKk102 hG, MRf39 hR, GKk128 hG, GKl128 hG, MRf40 hR, GKk129 hG, GKl129 hG, wp_some, wp_ck_T, wp_ck_t, wp_bind, wp_ite_t, wp_ite_f, J_lit, J_neg, J_add, J_sub, J_mul, J_lt, J_le, J_eq, J_toInt, J_clamp, J_suc, si_1, si_2, sl_1, sl_2, sl_3, Int.toNat_natCast, Int.reduceToNat, Nat.add_sub_cancel, Int.toNat_add, Int.toNat_mul, Int.toNat_sub'', true_and, and_true, and_self, if_true, if_false, not_true, not_false_eq_true, h129, hx, e2]
      have hF : Fr [128] M (rhsi M 128 (E + l'.length + mm) (J x)) := (Fr.refl _ _).si (by simp) _ _
      rw [← hm, ← ht]
      refine ih _ l' hR (by rw [hF.i (by decide)]; exact h129) ?_ (by omega) (by omega) (fun M' h1 h2 h3 => hK M' (hF.trans h1) ?_ (fun i hi => ?_))
      · exact Sg_cong l' _ (fun i h1 h2 => by rw [si_1, if_neg (by omega)]) hs.1
      · rw [Sg_app]
        refine ⟨h2, ?_, trivial⟩
        rw [h3 _ (by omega), si_1, if_pos ⟨rfl, by omega⟩]
      · rw [h3 _ (by omega), si_1, if_neg (by omega)]
theorem m_mv89 (hG : GK Γ) {m t : Int32} {mm tt : Nat} (hm : m = J mm) (ht : t = J tt) (htt : tt ≤ 5) (K : rhM → Nat → Int32 → Int32 → Option rhM) (Q : rhM → Prop) : ∀ (n : Nat) (M : rhM) (k : Nat), MR M → k ≤ tt → tt - k < n →
    (∀ M', Fr [129] M M' → (∀ i, M'.1 129 i = if k ≤ i ∧ i < tt then M.1 129 i - J mm else M.1 129 i) → wp (K M' 102 m t) Q) →
    wp (f_X12_moves_89 K Γ n M 102 m t (J k)) Q := by
  intro n
  induction n with
  | zero => intro M k _ _ h; omega
  | succ n ih =>
    intro M k hR hk hn hK
    rw [f_X12_moves_89, hm, ht]
    by_cases h : k < tt
    · simp (disch := omega) only [f_X12_moves_89, GKk102 hG, MRf40 hR, GKk129 hG, GKl129 hG, wp_some, wp_ck_T, wp_ck_t, wp_bind, wp_ite_t, wp_ite_f, J_lit, J_neg, J_add, J_sub, J_mul, J_lt, J_le, J_eq, J_toInt, J_clamp, J_suc, si_1, si_2, sl_1, sl_2, sl_3, Int.toNat_natCast, Int.reduceToNat, Nat.add_sub_cancel, Int.toNat_add, Int.toNat_mul, Int.toNat_sub'', true_and, and_true, and_self, if_true, if_false, not_true, not_false_eq_true]
      have hF : Fr [129] M (rhsi M 129 k (M.1 129 k - J mm)) := (Fr.refl _ _).si (by simp) _ _
      rw [← hm, ← ht]
      refine ih _ (k + 1) hR (by omega) (by omega) (fun M' h1 h2 => hK M' (by rw [hm] at h1; exact hF.trans h1) (fun i => ?_))
      rw [h2, si_1, hm]
      by_cases e : i = k
      · rw [if_neg (by omega), if_pos ⟨rfl, e⟩, if_pos (by omega), e]
      · by_cases e2 : k + 1 ≤ i ∧ i < tt
        · rw [if_pos e2, if_neg (by omega), if_pos (by omega)]
        · rw [if_neg e2, if_neg (by omega), if_neg (by omega)]
    · simp (disch := omega) only [wp_some, wp_ck_T, wp_ck_t, wp_bind, wp_ite_t, wp_ite_f, J_lit, J_neg, J_add, J_sub, J_mul, J_lt, J_le, J_eq, J_toInt, J_clamp, J_suc, si_1, si_2, sl_1, sl_2, sl_3, Int.toNat_natCast, Int.reduceToNat, Nat.add_sub_cancel, Int.toNat_add, Int.toNat_mul, Int.toNat_sub'', true_and, and_true, and_self, if_true, if_false, not_true, not_false_eq_true]
      rw [← hm, ← ht]
      exact hK M (Fr.refl _ _) (fun i => by rw [if_neg (by omega)])
theorem m_mv157 (hG : GK Γ) {f m t : Int32} {mm ff : Nat} (hm : m = J mm) (hf : f = J ff) (htt : ff ≤ 5) (K : rhM → Nat → Int32 → Int32 → Option rhM) (Q : rhM → Prop) : ∀ (n : Nat) (M : rhM) (k : Nat), MR M → k ≤ ff → ff - k < n →
    (∀ M', Fr [129] M M' → (∀ i, M'.1 129 i = if k ≤ i ∧ i < ff then M.1 129 i + J mm else M.1 129 i) → wp (K M' 102 m t) Q) →
    wp (f_X12_moves_157 K Γ n M 102 f m t (J k)) Q := by
  intro n
  induction n with
  | zero => intro M k _ _ h; omega
  | succ n ih =>
    intro M k hR hk hn hK
    rw [f_X12_moves_157, hm, hf]
    by_cases h : k < ff
    · simp (disch := omega) only [f_X12_moves_157, GKk102 hG, MRf40 hR, GKk129 hG, GKl129 hG, wp_some, wp_ck_T, wp_ck_t, wp_bind, wp_ite_t, wp_ite_f, J_lit, J_neg, J_add, J_sub, J_mul, J_lt, J_le, J_eq, J_toInt, J_clamp, J_suc, si_1, si_2, sl_1, sl_2, sl_3, Int.toNat_natCast, Int.reduceToNat, Nat.add_sub_cancel, Int.toNat_add, Int.toNat_mul, Int.toNat_sub'', true_and, and_true, and_self, if_true, if_false, not_true, not_false_eq_true]
      have hF : Fr [129] M (rhsi M 129 k (M.1 129 k + J mm)) := (Fr.refl _ _).si (by simp) _ _
      rw [← hm, ← hf]
      refine ih _ (k + 1) hR (by omega) (by omega) (fun M' h1 h2 => hK M' (by rw [hm] at h1; exact hF.trans h1) (fun i => ?_))
      rw [h2, si_1, hm]
      by_cases e : i = k
      · rw [if_neg (by omega), if_pos ⟨rfl, e⟩, if_pos (by omega), e]
      · by_cases e2 : k + 1 ≤ i ∧ i < ff
        · rw [if_pos e2, if_neg (by omega), if_pos (by omega)]
        · rw [if_neg e2, if_neg (by omega), if_neg (by omega)]
    · simp (disch := omega) only [wp_some, wp_ck_T, wp_ck_t, wp_bind, wp_ite_t, wp_ite_f, J_lit, J_neg, J_add, J_sub, J_mul, J_lt, J_le, J_eq, J_toInt, J_clamp, J_suc, si_1, si_2, sl_1, sl_2, sl_3, Int.toNat_natCast, Int.reduceToNat, Nat.add_sub_cancel, Int.toNat_add, Int.toNat_mul, Int.toNat_sub'', true_and, and_true, and_self, if_true, if_false, not_true, not_false_eq_true]
      rw [← hm]
      exact hK M (Fr.refl _ _) (fun i => by rw [if_neg (by omega)])
theorem m_mv183 (hG : GK Γ) {m t : Int32} {mm tt E : Nat} (hm : m = J mm) (ht : t = J tt) (htt : tt < 6) (hmE : mm ≤ E) (hE : E ≤ 8) : ∀ (n : Nat) (M : rhM) (k : Nat) (l : List Nat), MR M → M.1 129 tt = J E → Sg (M.1 130) k l → k + l.length = mm → l.length < n →
    wp (f_X12_moves_183 Γ n M 102 m t (J k)) (fun M' => Fr [128] M M' ∧ Sg (M'.1 128) (E - mm + k) l ∧ ∀ i, i < E - mm + k ∨ E ≤ i → M'.1 128 i = M.1 128 i) := by
  intro n
  induction n with
  | zero => intro M k l _ _ _ _ h; omega
  | succ n ih =>
    intro M k l hR h129 hs hl hn
    rw [f_X12_moves_183, hm, ht]
    match l, hs, hl, hn with
    | [], hs, hl, hn =>
      simp only [List.length_nil] at hl
      simp (disch := omega) only [wp_some, wp_ck_T, wp_ck_t, wp_bind, wp_ite_t, wp_ite_f, J_lit, J_neg, J_add, J_sub, J_mul, J_lt, J_le, J_eq, J_toInt, J_clamp, J_suc, si_1, si_2, sl_1, sl_2, sl_3, Int.toNat_natCast, Int.reduceToNat, Nat.add_sub_cancel, Int.toNat_add, Int.toNat_mul, Int.toNat_sub'', true_and, and_true, and_self, if_true, if_false, not_true, not_false_eq_true]
      simp [Sg, Fr.refl]
    | x :: l, hs, hl, hn =>
      rw [List.length_cons] at hl hn
      have e1 : ((E : Int) - mm + k) = ((E - mm + k : Nat) : Int) := by omega
      simp (disch := omega) only [f_X12_moves_183, GKk102 hG, MRf39 hR, GKk128 hG, GKl128 hG, MRf40 hR, GKk129 hG, GKl129 hG, MRf41 hR, GKk130 hG, GKl130 hG, wp_some, wp_ck_T, wp_ck_t, wp_bind, wp_ite_t, wp_ite_f, J_lit, J_neg, J_add, J_sub, J_mul, J_lt, J_le, J_eq, J_toInt, J_clamp, J_suc, si_1, si_2, sl_1, sl_2, sl_3, Int.toNat_natCast, Int.reduceToNat, Nat.add_sub_cancel, Int.toNat_add, Int.toNat_mul, Int.toNat_sub'', true_and, and_true, and_self, if_true, if_false, not_true, not_false_eq_true, h129, hs.1, e1]
      have hF : Fr [128] M (rhsi M 128 (E - mm + k) (J x)) := (Fr.refl _ _).si (by simp) _ _
      rw [← hm, ← ht]
      refine (ih (rhsi M 128 (E - mm + k) (J x)) (k + 1) l hR (by rw [hF.i (by decide)]; exact h129) (by rw [hF.i (by decide)]; exact hs.2) (by omega) (by omega)).mono (fun M' h => ⟨hF.trans h.1, ⟨?_, ?_⟩, fun i hi => ?_⟩)
      · rw [h.2.2 _ (by omega), si_1, if_pos ⟨rfl, rfl⟩]
      · have := h.2.1
        rw [show E - mm + (k + 1) = E - mm + k + 1 by omega] at this; exact this
      · rw [h.2.2 _ (by omega), si_1, if_neg (by omega)]
/-- a pull over the reference's row -/
theorem m_moves (hG : GK Γ) (hR : MR M) {R H : Nat} (hR5 : R ≤ 5) (hH : H ≤ 8) (hA : RA M 128 0 129 0 L) (wL : WA R H L) {f m t : Nat} (hf : f < R) (ht : t < R) (hft : f ≠ t) (hm1 : 1 ≤ m) (hm : m ≤ (rl L f).length) :
    wp (f_X12_moves Γ M 102 (J f) (J m) (J t)) (fun M' => Fr [128, 129, 130] M M' ∧ RA M' 128 0 129 0 (mv L f m t)) := by
  have hfl : f < L.length := by rw [wL.1]; exact hf
  have htl : t < L.length := by rw [wL.1]; exact ht
  have h1 := hA.2 f hfl
  rw [Nat.zero_add] at h1
  have h1t := hA.2 t htl
  rw [Nat.zero_add] at h1t
  have h2 := wL.rl_len hf
  have h3 := wL.le (r := f + 1) (by omega)
  have h3t := wL.le (r := t + 1) (by omega)
  have h4 : (rl L f).length ≤ cum L (f + 1) := by rw [cum_succ]; omega
  have hs := sg_len hm
  have hc := mv_cum hft hfl htl hm
  have hFU := FU_big
  have hgs := Sg_sg hA.1 hfl hm
  rw [Nat.zero_add] at hgs
  rw [f_X12_moves]
  have e1 : ((cum L (f + 1) : Int) - m) = ((cum L (f + 1) - m : Nat) : Int) := by omega
  simp (disch := omega) only [f_X12_moves, GKk102 hG, MRf40 hR, GKk129 hG, GKl129 hG, wp_some, wp_ck_T, wp_ck_t, wp_bind, wp_ite_t, wp_ite_f, J_lit, J_neg, J_add, J_sub, J_mul, J_lt, J_le, J_eq, J_toInt, J_clamp, J_suc, si_1, si_2, sl_1, sl_2, sl_3, Int.toNat_natCast, Int.reduceToNat, Nat.add_sub_cancel, Int.toNat_add, Int.toNat_mul, Int.toNat_sub'', true_and, and_true, and_self, if_true, if_false, not_true, not_false_eq_true, h1, e1]
  have key := m_mv13 hG (f := J f) (t := J t) (m := J m) (mm := m) (first := cum L (f + 1) - m) rfl (by omega) (by omega) (f_X12_moves_42 Γ) (fun M' => Fr [128, 129, 130] M M' ∧ RA M' 128 0 129 0 (mv L f m t)) rhFU M 0 hR (by omega) (by omega)
  refine key (fun M1 hF1 hd _ => ?_)
  have hR1 := hR.fr hF1
  have hA1 := hA.fr hF1 (by decide) (by decide)
  have hdr : Sg (M1.1 130) 0 (sg L f m) := by
    refine Sg_shift 0 _ _ (fun i hi => ?_) hgs
    rw [Nat.zero_add]; exact hd i (by omega) (by omega)
  have x1 : M1.1 129 f = J (cum L (f + 1)) := by rw [hF1.i (by decide)]; exact h1
  have x1t : M1.1 129 t = J (cum L (t + 1)) := by rw [hF1.i (by decide)]; exact h1t
  rw [f_X12_moves_42]
  rcases Nat.lt_or_gt_of_ne hft with h | h
  · obtain ⟨P, Q, S, g1, g2, g3, g4⟩ := mv_lt [] h htl hm
    simp only [List.length_nil, Nat.mul_zero, Nat.add_zero] at g3 g4
    have hle := cum_mono L (show f + 1 ≤ t + 1 by omega)
    have q0 := hA1.1
    rw [g1, Sg_app, Sg_app, Sg_app] at q0
    simp only [Nat.zero_add, hs] at q0
    simp (disch := omega) only [wp_some, wp_ck_T, wp_ck_t, wp_bind, wp_ite_t, wp_ite_f, J_lit, J_neg, J_add, J_sub, J_mul, J_lt, J_le, J_eq, J_toInt, J_clamp, J_suc, si_1, si_2, sl_1, sl_2, sl_3, Int.toNat_natCast, Int.reduceToNat, Nat.add_sub_cancel, Int.toNat_add, Int.toNat_mul, Int.toNat_sub'', true_and, and_true, and_self, if_true, if_false, not_true, not_false_eq_true]
    refine m_mv51 hG (f := J f) (t := J t) (m := J m) (mm := m) (tt := t) (E := cum L (t + 1)) rfl rfl (by omega) hm1 (by omega) _ _ rhFU M1 (cum L (f + 1) - m) Q hR1 x1t ?_ (by omega) (by omega) (fun M2 hF2 hq2 ho2 => ?_)
    · rw [show cum L (f + 1) - m + m = P.length + m by omega]; exact q0.2.2.1
    · rw [f_X12_moves_86]
      refine m_mv89 hG (t := J t) (m := J m) (mm := m) (tt := t) rfl rfl (by omega) _ _ rhFU M2 f (hR1.fr hF2) (by omega) (by omega) (fun M3 hF3 he3 => ?_)
      rw [f_X12_moves_112, f_X12_moves_180]
      have x3t : M3.1 129 t = J (cum L (t + 1)) := by rw [he3, if_neg (by omega), hF2.i (by decide)]; exact x1t
      refine (m_mv183 hG (t := J t) (m := J m) (mm := m) (tt := t) (E := cum L (t + 1)) rfl rfl (by omega) (by omega) (by omega) rhFU M3 0 (sg L f m) ((hR1.fr hF2).fr hF3) x3t (by rw [hF3.i (by decide), hF2.i (by decide)]; exact hdr) (by omega) (by omega)).mono (fun M4 h4 => ?_)
      obtain ⟨hF4, hs4, ho4⟩ := h4
      have y2 : M3.1 128 = M2.1 128 := hF3.i (by decide)
      refine ⟨(hF1.sub (by decide)).trans ((hF2.sub (by decide)).trans ((hF3.sub (by decide)).trans (hF4.sub (by decide)))), ?_, ?_⟩
      · rw [g2, Sg_app, Sg_app, Sg_app]
        simp only [Nat.zero_add, hs]
        refine ⟨?_, ?_, ?_, ?_⟩
        · exact Sg_cong P 0 (fun i _ hi => by rw [ho4 i (by omega), y2, ho2 i (by omega)]) q0.1
        · refine Sg_cong Q _ (fun i h5 hi => by rw [ho4 i (by omega), y2]) ?_
          rw [show P.length = cum L (f + 1) - m by omega]; exact hq2
        · rw [show P.length + Q.length = cum L (t + 1) - m + 0 by omega]; exact hs4
        · have := q0.2.2.2
          rw [show P.length + m + Q.length = P.length + Q.length + m by omega] at this
          exact Sg_cong S _ (fun i h5 hi => by rw [ho4 i (by omega), y2, ho2 i (by omega)]) this
      · intro r hr
        rw [mv_len] at hr
        rw [Nat.zero_add, hF4.i (by decide), he3, hF2.i (by decide)]
        have q1 := hA1.2 r hr
        rw [Nat.zero_add] at q1
        have q2 := hc (r + 1)
        rw [q1]
        by_cases c : f ≤ r ∧ r < t
        · rw [if_pos c]; rw [if_pos (by omega), if_neg (by omega)] at q2
          rw [J_sub]; congr 1; omega
        · rw [if_neg c]
          congr 1
          by_cases c2 : f < r + 1
          · rw [if_pos c2, if_pos (by omega)] at q2; omega
          · rw [if_neg c2, if_neg (by omega)] at q2; omega
  · obtain ⟨P, Q, S, g1, g2, g3, g4⟩ := mv_gt [] h hfl hm
    simp only [List.length_nil, Nat.mul_zero, Nat.add_zero] at g3 g4
    have hle := cum_mono L (show t + 1 ≤ f + 1 by omega)
    have hlen := wL.len
    rw [g1] at hlen
    simp only [List.length_append, hs] at hlen
    have q0 := hA1.1
    rw [g1, Sg_app, Sg_app, Sg_app] at q0
    simp only [Nat.zero_add, hs] at q0
    have e2 : ((cum L (f + 1) - m : Nat) : Int) - 1 = ((cum L (t + 1) : Nat) : Int) + Q.length - 1 := by omega
    simp (disch := omega) only [wp_some, wp_ck_T, wp_ck_t, wp_bind, wp_ite_t, wp_ite_f, J_lit, J_neg, J_add, J_sub, J_mul, J_lt, J_le, J_eq, J_toInt, J_clamp, J_suc, si_1, si_2, sl_1, sl_2, sl_3, Int.toNat_natCast, Int.reduceToNat, Nat.add_sub_cancel, Int.toNat_add, Int.toNat_mul, Int.toNat_sub'', true_and, and_true, and_self, if_true, if_false, not_true, not_false_eq_true, e2]
    refine m_mv121 hG (f := J f) (t := J t) (m := J m) (mm := m) (tt := t) (E := cum L (t + 1)) rfl rfl (by omega) hm1 _ _ rhFU M1 Q hR1 x1t ?_ (by omega) (by omega) (fun M2 hF2 hq2 ho2 => ?_)
    · rw [← g3]; exact q0.2.1
    · rw [f_X12_moves_154]
      refine m_mv157 hG (f := J f) (t := J t) (m := J m) (mm := m) (ff := f) rfl rfl (by omega) _ _ rhFU M2 t (hR1.fr hF2) (by omega) (by omega) (fun M3 hF3 he3 => ?_)
      rw [f_X12_moves_180]
      have x3t : M3.1 129 t = J ((cum L (t + 1) + m : Nat) : Int) := by rw [he3, if_pos (by omega), hF2.i (by decide), x1t, J_add]; congr 1
      refine (m_mv183 hG (t := J t) (m := J m) (mm := m) (tt := t) (E := cum L (t + 1) + m) rfl rfl (by omega) (by omega) (by omega) rhFU M3 0 (sg L f m) ((hR1.fr hF2).fr hF3) x3t (by rw [hF3.i (by decide), hF2.i (by decide)]; exact hdr) (by omega) (by omega)).mono (fun M4 h4 => ?_)
      obtain ⟨hF4, hs4, ho4⟩ := h4
      have y2 : M3.1 128 = M2.1 128 := hF3.i (by decide)
      refine ⟨(hF1.sub (by decide)).trans ((hF2.sub (by decide)).trans ((hF3.sub (by decide)).trans (hF4.sub (by decide)))), ?_, ?_⟩
      · rw [g2, Sg_app, Sg_app, Sg_app]
        simp only [Nat.zero_add, hs]
        refine ⟨?_, ?_, ?_, ?_⟩
        · exact Sg_cong P 0 (fun i _ hi => by rw [ho4 i (by omega), y2, ho2 i (by omega)]) q0.1
        · rw [show P.length = cum L (t + 1) + m - m + 0 by omega]; exact hs4
        · refine Sg_cong Q _ (fun i h5 hi => by rw [ho4 i (by omega), y2]) ?_
          rw [show P.length + m = cum L (t + 1) + m by omega]; exact hq2
        · have := q0.2.2.2
          rw [show P.length + Q.length + m = P.length + m + Q.length by omega] at this
          exact Sg_cong S _ (fun i h5 hi => by rw [ho4 i (by omega), y2, ho2 i (by omega)]) this
      · intro r hr
        rw [mv_len] at hr
        rw [Nat.zero_add, hF4.i (by decide), he3, hF2.i (by decide)]
        have q1 := hA1.2 r hr
        rw [Nat.zero_add] at q1
        have q2 := hc (r + 1)
        rw [q1]
        by_cases c : t ≤ r ∧ r < f
        · rw [if_pos c]; rw [if_neg (by omega), if_pos (by omega)] at q2
          rw [J_add]; congr 1; omega
        · rw [if_neg c]
          congr 1
          by_cases c2 : f < r + 1
          · rw [if_pos c2, if_pos (by omega)] at q2; omega
          · rw [if_neg c2, if_neg (by omega)] at q2; omega
end
