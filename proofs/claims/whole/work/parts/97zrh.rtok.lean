/-! THE REFERENCE'S TOKENS -/
def RB (M : rhM) (bs : List Int32) : Prop := M.1 102 3 = J bs.length ∧ Bs (M.1 104) bs ∧ bs.length ≤ 1600 ∧ ∀ z, z ∈ bs → -128 ≤ z.toInt ∧ z.toInt < 128
def RT (M : rhM) (bs : List Int32) (i : Nat) : Prop := RB M bs ∧ M.1 102 6 = J (qp bs i) ∧ M.1 102 7 = J (qn bs i) ∧ M.1 102 8 = J (qk bs i) ∧ (qk bs i = 2 ∨ qk bs i = 3 → M.2.1 102 10 = jl (enb 256 0 (qw bs i))) ∧ (qk bs i = 4 → M.1 102 9 = J (qv bs i))
def ut (b : Int) : Int := if b < 0 then b + 256 else b
theorem ut_and : ∀ k, k < 256 → J ((k : Nat) - 128 : Int) &&& 255 = J (ut ((k : Nat) - 128 : Int)) := by decide +kernel
theorem ut_ok {b : Int} (h : -128 ≤ b ∧ b < 128) : J b &&& 255 = J (ut b) := by
  have := ut_and (b + 128).toNat (by omega)
  rw [show (((b + 128).toNat : Nat) : Int) - 128 = b by omega] at this
  exact this
theorem ut_rng {b : Int} (h : -128 ≤ b ∧ b < 128) : 0 ≤ ut b ∧ ut b < 256 := by unfold ut; split <;> omega
theorem ut_P {b : Int} (h : -128 ≤ b ∧ b < 128) : isLe (ut b) = isLe b ∧ isDi (ut b) = isDi b ∧ isSg (ut b) = isSg b ∧ ∀ k, 0 ≤ k → k < 128 → (ut b = k ↔ b = k) := by
  by_cases c : b < 0
  · have e : ut b = b + 256 := by unfold ut; rw [if_pos c]
    refine ⟨?_, ?_, ?_, fun k h1 h2 => ?_⟩
    · unfold isLe; rw [e]; exact decide_eq_decide.mpr (by omega)
    · unfold isDi; rw [e]; exact decide_eq_decide.mpr (by omega)
    · unfold isSg; rw [e]; exact decide_eq_decide.mpr (by omega)
    · rw [e]; omega
  · have e : ut b = b := by unfold ut; rw [if_neg c]
    rw [e]; exact ⟨rfl, rfl, rfl, fun _ _ _ => Iff.rfl⟩
theorem ut_pos {b : Int} (h : 0 ≤ b) : ut b = b := by unfold ut; rw [if_neg (by omega)]
theorem RB.si {M : rhM} {bs : List Int32} (h : RB M bs) {k : Nat} (hk : k ≠ 3) (v : Int32) : RB (rhsi M 102 k v) bs := by
  obtain ⟨h0, h1, h2, h3⟩ := h
  refine ⟨?_, ?_, h2, h3⟩
  · rw [si_1, if_neg (by omega)]; exact h0
  · have : (rhsi M 102 k v).1 104 = M.1 104 := by funext j; rw [si_1, if_neg (by omega)]
    rw [this]; exact h1
theorem RB.sl {M : rhM} {bs : List Int32} (h : RB M bs) (k : Nat) (v : Int64) : RB (rhsl M 102 k v) bs := h
section
variable {Γ : rhG} {M : rhM} {bs : List Int32} {Q : rhM → Prop}
theorem r_isLe {b : Int} (h : -128 ≤ b ∧ b < 256) : f_X12_isLetter Γ M (J b) = some (if isLe b = true then 1 else 0) := c_isLe (Γ := Γ) (M := M) h
theorem r_isDi {b : Int} (h : -128 ≤ b ∧ b < 256) : f_X12_isDigit Γ M (J b) = some (if isDi b = true then 1 else 0) := c_isDi (Γ := Γ) (M := M) h
theorem r_isSg {b : Int} (h : -128 ≤ b ∧ b < 256) : f_X12_isSign Γ M (J b) = some (if isSg b = true then 1 else 0) := by
  have e : ∀ k : Nat, k < 128 → (J b = J k) = (b = k) := fun k hk => by rw [J_eq (by omega) (by omega) (by omega) (by omega)]
  unfold f_X12_isSign isSg
  simp only [show (59 : Int32) = J (59 : Nat) from rfl, show (40 : Int32) = J (40 : Nat) from rfl, show (41 : Int32) = J (41 : Nat) from rfl, show (60 : Int32) = J (60 : Nat) from rfl, show (62 : Int32) = J (62 : Nat) from rfl, show (61 : Int32) = J (61 : Nat) from rfl, show (43 : Int32) = J (43 : Nat) from rfl, show (45 : Int32) = J (45 : Nat) from rfl, show (42 : Int32) = J (42 : Nat) from rfl, show (47 : Int32) = J (47 : Nat) from rfl, e 59 (by decide), e 40 (by decide), e 41 (by decide), e 60 (by decide), e 62 (by decide), e 61 (by decide), e 43 (by decide), e 45 (by decide), e 42 (by decide), e 47 (by decide), decide_eq_true_eq]
  repeat' split
  all_goals (first | rfl | (exfalso; omega))
theorem r_sign (hG : GK Γ) (hR : MR M) (hB : RB M bs) {k : Nat} (hk : k ≤ 4000) : f_X12_sign Γ M 102 (J k) = some (J (ut (bt bs k))) := by
  obtain ⟨h0, h1, h2, h3⟩ := hB
  rw [f_X12_sign, rhck_t (GKk102 hG), h0, MRf1 hR]
  by_cases c : k < bs.length
  · rw [if_pos (by rw [J_lt (by omega) (by omega) (by omega) (by omega)]; omega), rhck_t (GKk104 hG), rhck_t (by rw [J_toInt (by omega) (by omega), GKl104 hG]; omega), J_clamp (by omega) (by omega), Int.toNat_natCast, Bs_bt h1 c, ut_ok (bt_rng h3 k)]
  · rw [if_neg (by rw [J_lt (by omega) (by omega) (by omega) (by omega)]; omega), bt_ge (by omega)]; rfl
def kwB (k : Nat) : Int64 := jl (enb 256 0 (kwL.getD k []))
theorem kwB_at : ((1918986604 : Int64) = kwB 0 ∧ (119182899770472 : Int64) = kwB 6 ∧ (448546567013 : Int64) = kwB 1 ∧ (131277443786868 : Int64) = kwB 7 ∧ (28526 : Int64) = kwB 8 ∧ (108187867505765 : Int64) = kwB 2 ∧ (512970880104 : Int64) = kwB 9 ∧ (1852138347 : Int64) = kwB 3 ∧ (431415719795 : Int64) = kwB 4) ∧ (7102839 : Int64) = kwB 5 ∧ (1835101817 : Int64) = kwB 13 ∧ (1718775661 : Int64) = kwB 14 ∧ (29807 : Int64) = kwB 15 ∧ (1919905645 : Int64) = kwB 16 ∧ (499850634611 : Int64) = kwB 17 ∧ (6385252 : Int64) = kwB 11 ∧ (28530 : Int64) = kwB 10 ∧ (7237492 : Int64) = kwB 12 := by decide
theorem kb_eq {k : Nat} (hk : k < 18) {w : List Nat} (hl : w.length ≤ 8) (hw : ∀ c, c ∈ w → 97 ≤ c ∧ c ≤ 122) : jl (enb 256 0 w) = kwB k ↔ w = kwL.getD k [] := by
  have hm : kwL.getD k [] ∈ kwL := by
    rw [List.getD_eq_getElem?_getD, List.getElem?_eq_getElem (show k < kwL.length from hk)]
    exact List.getElem_mem _
  obtain ⟨g1, g2⟩ := kwL_mem hm
  have f : ∀ l : List Nat, (∀ c, c ∈ l → 97 ≤ c ∧ c ≤ 122) → ∀ c, c ∈ l → 0 < c ∧ c - 0 < 256 := fun l h c hc => by have := h c hc; omega
  have b : ∀ l : List Nat, l.length ≤ 8 → (∀ c, c ∈ l → 97 ≤ c ∧ c ≤ 122) → enb 256 0 l < 2 ^ 64 := fun l h1 h2 => by
    have h3 := enb_lt (m := 256) (s := 0) (by decide) l.length l rfl (f l h2)
    have h4 : 256 ^ l.length ≤ 256 ^ 8 := Nat.pow_le_pow_right (by decide) h1
    have h5 : (256 : Nat) ^ 8 = 2 ^ 64 := by decide
    omega
  unfold kwB
  rw [jl_inj (b _ hl hw) (b _ g1 g2)]
  exact ⟨fun h => enb_inj _ _ _ rfl (f _ hw) (f _ g2) h, fun h => by rw [h]⟩
theorem kw_in {w : List Nat} : w ∈ kwL ↔ ∃ k, k < 18 ∧ w = kwL.getD k [] := by
  constructor
  · intro h
    obtain ⟨k, hk, e⟩ := List.getElem_of_mem h
    exact ⟨k, hk, by rw [List.getD_eq_getElem?_getD, List.getElem?_eq_getElem hk, ← e]; rfl⟩
  · rintro ⟨k, hk, e⟩
    rw [e, List.getD_eq_getElem?_getD, List.getElem?_eq_getElem (show k < kwL.length from hk)]
    exact List.getElem_mem _
theorem r_isKept {w : List Nat} (hl : w.length ≤ 8) (hw : ∀ c, c ∈ w → 97 ≤ c ∧ c ≤ 122) : f_X12_isKept Γ M (jl (enb 256 0 w)) = some (if w ∈ kwL then 1 else 0) := by
  obtain ⟨⟨a0, a1, a2, a3, a4, a5, a6, a7, a8⟩, d0, d1, d2, d3, d4, d5, d6, d7, d8⟩ := kwB_at
  have k1 : f_X12_isKept_77 Γ M (jl (enb 256 0 w)) 1 = some 1 := by rw [f_X12_isKept_77, if_neg (by decide)]
  have e := fun k (hk : k < 18) => kb_eq hk hl hw
  rw [f_X12_isKept]
  simp only [f_X12_isKept_72, k1, f_X12_isKept_77, a0, a1, a2, a3, a4, a5, a6, a7, a8, d0, d1, d2, d3, d4, d5, d6, d7, d8, e 0 (by decide), e 1 (by decide), e 2 (by decide), e 3 (by decide), e 4 (by decide), e 5 (by decide), e 6 (by decide), e 7 (by decide), e 8 (by decide), e 9 (by decide), e 10 (by decide), e 11 (by decide), e 12 (by decide), e 13 (by decide), e 14 (by decide), e 15 (by decide), e 16 (by decide), e 17 (by decide), if_true]
  by_cases c : w ∈ kwL
  · rw [if_pos c]
    obtain ⟨k, hk, rfl⟩ := kw_in.mp c
    have : ∀ k, k < 18 → k = 0 ∨ k = 1 ∨ k = 2 ∨ k = 3 ∨ k = 4 ∨ k = 5 ∨ k = 6 ∨ k = 7 ∨ k = 8 ∨ k = 9 ∨ k = 10 ∨ k = 11 ∨ k = 12 ∨ k = 13 ∨ k = 14 ∨ k = 15 ∨ k = 16 ∨ k = 17 := by omega
    rcases this k hk with rfl | rfl | rfl | rfl | rfl | rfl | rfl | rfl | rfl | rfl | rfl | rfl | rfl | rfl | rfl | rfl | rfl | rfl <;> rfl
  · have n : ∀ k, k < 18 → ¬ w = kwL.getD k [] := fun k hk h => c (kw_in.mpr ⟨k, hk, h⟩)
    rw [if_neg c, if_neg (n 0 (by decide)), if_neg (n 6 (by decide)), if_neg (n 1 (by decide)), if_neg (n 7 (by decide)), if_neg (n 8 (by decide)), if_neg (n 2 (by decide)), if_neg (n 9 (by decide)), if_neg (n 3 (by decide)), if_neg (n 4 (by decide)), if_neg (n 5 (by decide)), if_neg (n 13 (by decide)), if_neg (n 14 (by decide)), if_neg (n 15 (by decide)), if_neg (n 16 (by decide)), if_neg (n 17 (by decide)), if_neg (n 11 (by decide)), if_neg (n 10 (by decide)), if_neg (n 12 (by decide))]
end
