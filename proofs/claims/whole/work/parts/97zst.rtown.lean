section
variable {Γ : rhG} {M M' : rhM} {T : Tn} {bs : List Int32} {B : Bd} {b o0 : Nat}
theorem by_id : ∀ k, k < 256 → vp_nar .byte (J ((k : Nat) - 128 : Int)) = J ((k : Nat) - 128 : Int) := by decide +kernel
theorem by_ok {z : Int32} (h : -128 ≤ z.toInt ∧ z.toInt < 128) : vp_nar .byte z = z := by
  have := by_id (z.toInt + 128).toNat (by omega)
  rw [show (((z.toInt + 128).toNat : Nat) : Int) - 128 = z.toInt by omega, J_of] at this
  exact this
theorem y_copy (hG : GK Γ) {K : rhM → Nat → Option (Int32 × rhM)} {Q : Int32 × rhM → Prop} (hl : bs.length ≤ 1600) (hb : ∀ z, z ∈ bs → -128 ≤ z.toInt ∧ z.toInt < 128) : ∀ (d n : Nat) (M : rhM) (k : Nat), MR M → k + d = bs.length → d < n → M.1 102 3 = J bs.length → Bs (M.1 103) bs → (∀ i z, bs[i]? = some z → i < k → M.1 104 i = z) → (∀ M', Fr [104] M M' → Bs (M'.1 104) bs → wp (K M' 102) Q) → wp (f_X12_town_20 K Γ n M 102 (J k)) Q := by
  intro d
  induction d with
  | zero =>
    intro n M k hR hk hn h3 h103 h104 hK
    obtain ⟨n, rfl⟩ : ∃ k, n = k + 1 := ⟨n - 1, by omega⟩
    rw [f_X12_town_20, wp_ck_t (GKk102 hG), h3, wp_ite_f (by rw [J_lt (by omega) (by omega) (by omega) (by omega)]; omega)]
    exact hK M (Fr.refl _ _) (fun i z h => h104 i z h (by have := (List.getElem?_eq_some_iff.mp h).1; omega))
  | succ d ih =>
    intro n M k hR hk hn h3 h103 h104 hK
    obtain ⟨n, rfl⟩ : ∃ k, n = k + 1 := ⟨n - 1, by omega⟩
    have hkl : k < bs.length := by omega
    have e0 : M.1 103 k = bs[k] := h103 k _ (List.getElem?_eq_getElem hkl)
    rw [f_X12_town_20, wp_ck_t (GKk102 hG), h3, wp_ite_t (by rw [J_lt (by omega) (by omega) (by omega) (by omega)]; omega), MRf0 hR, wp_ck_t (GKk103 hG), wp_ck_t (by rw [J_toInt (by omega) (by omega), GKl103 hG]; omega), MRf1 hR, wp_ck_t (GKk104 hG), wp_ck_t (by rw [J_toInt (by omega) (by omega), GKl104 hG]; omega), J_clamp (by omega) (by omega), Int.toNat_natCast, e0, by_ok (hb _ (List.getElem_mem hkl))]
    show wp (f_X12_town_20 K Γ n (rhsi M 104 k bs[k]) 102 (J k + 1)) Q
    rw [show J k + 1 = J ((k + 1 : Nat) : Int) by rw [show (1 : Int32) = J 1 from rfl, J_add, J_suc]]
    have F : Fr [104] M (rhsi M 104 k bs[k]) := (Fr.refl _ _).si (by simp) _ _
    refine ih n (rhsi M 104 k bs[k]) (k + 1) hR (by omega) (by omega) (by rw [si_1, if_neg (by omega)]; exact h3) (by rw [F.i (by decide)]; exact h103) (fun i z h hi => ?_) (fun M' f q => hK M' (F.trans f) q)
    rw [si_1]
    by_cases c : i = k
    · rw [if_pos ⟨rfl, c⟩]
      rw [c, List.getElem?_eq_getElem hkl] at h
      exact Option.some.inj h
    · rw [if_neg (fun q => c q.2)]; exact h104 i z h (by omega)
theorem y_clear127 (hG : GK Γ) (hb : b ≤ 1) : ∀ (d n : Nat) (M : rhM) (k : Nat), MR M → M.1 102 35 = J b → k + d = 64 → d < n → (∀ j, j < k → M.1 116 (64 * b + j) = 0 ∧ M.1 120 (64 * b + j) = 0) → wp (f_X12_clearBank_127 Γ n M 102 (J (64 * b + k : Nat))) (fun M' => YB b M M' ∧ Fr [116, 120] M M' ∧ ∀ j, j < 64 → M'.1 116 (64 * b + j) = 0 ∧ M'.1 120 (64 * b + j) = 0) := by
  intro d
  induction d with
  | zero =>
    intro n M k hR h35 hk hn hz
    obtain ⟨n, rfl⟩ : ∃ k, n = k + 1 := ⟨n - 1, by omega⟩
    rw [f_X12_clearBank_127, wp_ck_t (GKk102 hG), h35, show (64 * J b) + 64 = J ((64 * b + 64 : Nat) : Int) by rw [show (64 : Int32) = J 64 from rfl, J_mul, J_add]; congr 1, wp_ite_f (by rw [J_lt (by omega) (by omega) (by omega) (by omega)]; omega), wp_some]
    exact ⟨YB.refl _ _, Fr.refl _ _, fun j hj => hz j (by omega)⟩
  | succ d ih =>
    intro n M k hR h35 hk hn hz
    obtain ⟨n, rfl⟩ : ∃ k, n = k + 1 := ⟨n - 1, by omega⟩
    have hd : (64 * b + k) / 64 ≠ 1 - b := by omega
    rw [f_X12_clearBank_127, wp_ck_t (GKk102 hG), h35, show (64 * J b) + 64 = J ((64 * b + 64 : Nat) : Int) by rw [show (64 : Int32) = J 64 from rfl, J_mul, J_add]; congr 1, wp_ite_t (by rw [J_lt (by omega) (by omega) (by omega) (by omega)]; omega), MRf22 hR, MRf26 hR, wp_ck_t (GKk116 hG), wp_ck_t (by rw [J_toInt (by omega) (by omega), GKl116 hG]; omega), wp_ck_t (GKk120 hG), wp_ck_t (by rw [J_toInt (by omega) (by omega), GKl120 hG]; omega), J_clamp (by omega) (by omega), Int.toNat_natCast, show vp_nar .boolean 0 = (0 : Int32) from by decide]
    show wp (f_X12_clearBank_127 Γ n (rhsi (rhsi M 116 (64 * b + k) 0) 120 (64 * b + k) 0) 102 (J (64 * b + k : Nat) + 1)) _
    rw [show J (64 * b + k : Nat) + 1 = J ((64 * b + (k + 1) : Nat) : Int) by rw [show (1 : Int32) = J 1 from rfl, J_add]; congr 1]
    have Y : YB b M (rhsi (rhsi M 116 (64 * b + k) 0) 120 (64 * b + k) 0) := ((YB.refl b M).si (r := 116) (by decide) (by decide) hd 0).si (r := 120) (by decide) (by decide) hd 0
    have F : Fr [116, 120] M (rhsi (rhsi M 116 (64 * b + k) 0) 120 (64 * b + k) 0) := ((Fr.refl _ _).si (by simp) _ _).si (by simp) _ _
    refine (ih n (rhsi (rhsi M 116 (64 * b + k) 0) 120 (64 * b + k) 0) (k + 1) hR (by rw [si_1, if_neg (by omega), si_1, if_neg (by omega)]; exact h35) (by omega) (by omega) (fun j hj => ?_)).mono (fun M' z => ⟨Y.trans z.1, F.trans z.2.1, z.2.2⟩)
    rw [si_1, if_neg (by omega), si_1, si_1]
    by_cases c : j = k
    · rw [if_pos ⟨rfl, by omega⟩, if_pos ⟨rfl, by omega⟩]; exact ⟨rfl, rfl⟩
    · rw [if_neg (by omega), if_neg (by omega), si_1, if_neg (by omega)]; exact hz j (by omega)
theorem y_clear (hE : RE Γ M b) : wp (f_X12_clearBank Γ M 102) (fun M' => YB b M M' ∧ RKB M' b b0 ∧ (∀ k, k ≠ 36 → M'.1 102 k = M.1 102 k) ∧ M'.2.1 102 = M.2.1 102) := by
  obtain ⟨hG, hR, hb, h35⟩ := id hE
  have so : ∀ (M1 : rhM) (r j : Nat) (v : Int32), r ≠ 102 → (rhsi M1 r j v).1 102 35 = M1.1 102 35 := fun M1 r j v h => by rw [si_1, if_neg (fun q => h q.1.symm)]
  have s36 : ∀ (M1 : rhM) (v : Int32), (rhsi M1 102 36 v).1 102 35 = M1.1 102 35 := fun M1 v => by rw [si_1, if_neg (by omega)]
  have s36' : ∀ (M1 : rhM) (v : Int32), (rhsi M1 102 36 v).1 102 36 = v := fun M1 v => by rw [si_1, if_pos ⟨rfl, rfl⟩]
  have hb2 : (0 ≤ (J (b : Nat)).toInt ∧ (J (b : Nat)).toInt < ((2 : Nat) : Int)) = True := by
    rw [J_toInt (by omega) (by omega)]; exact eq_true (by omega)
  have hcl : (J (b : Nat)).toNatClampNeg = b := by rw [J_clamp (by omega) (by omega), Int.toNat_natCast]
  have hv : vp_nar .boolean 0 = (0 : Int32) := by decide
  rw [f_X12_clearBank]
  simp (disch := decide) only [so, s36, s36', h35, hb2, hcl, hv, GKk102 hG, MRf11 hR, MRf12 hR, MRf13 hR, MRf14 hR, MRf15 hR, MRf16 hR, MRf17 hR, MRf23 hR, MRf24 hR, MRf25 hR, GKk105 hG, GKl105 hG, GKk106 hG, GKl106 hG, GKk107 hG, GKl107 hG, GKk108 hG, GKl108 hG, GKk109 hG, GKl109 hG, GKk110 hG, GKl110 hG, GKk111 hG, GKl111 hG, GKk117 hG, GKl117 hG, GKk118 hG, GKl118 hG, GKk119 hG, GKl119 hG, wp_ck_T]
  have hbig := FU_big
  have e500 : 500 * J b = J ((500 * b : Nat) : Int) := by rw [show (500 : Int32) = J 500 from rfl, J_mul]; congr 1
  have e64 : 64 * J b = J ((64 * b + 0 : Nat) : Int) := by rw [show (64 : Int32) = J 64 from rfl, J_mul]; congr 1
  rw [e64]
  have b1 : b / 1 ≠ 1 - b := by rw [Nat.div_one]; omega
  have YA : YB b M (rhsi (rhsi (rhsi (rhsi (rhsi (rhsi (rhsi (rhsi (rhsi (rhsi (rhsi M 105 b 0) 106 b 0) 107 b 0) 108 b 0) 109 b 999) 110 b 999) 117 b 0) 118 b 0) 119 b 0) 102 36 (500 * J ↑b)) 111 b (500 * J ↑b)) := by
    have y1 := (((((((((YB.refl b M).si (r := 105) (j := b) (by decide) (by decide) b1 0).si (r := 106) (j := b) (by decide) (by decide) b1 0).si (r := 107) (j := b) (by decide) (by decide) b1 0).si (r := 108) (j := b) (by decide) (by decide) b1 0).si (r := 109) (j := b) (by decide) (by decide) b1 999).si (r := 110) (j := b) (by decide) (by decide) b1 999).si (r := 117) (j := b) (by decide) (by decide) b1 0).si (r := 118) (j := b) (by decide) (by decide) b1 0).si (r := 119) (j := b) (by decide) (by decide) b1 0
    exact (y1.trans (YB.yl hb ((YL.refl b _).si (r := 102) (j := 36) (by omega) (500 * J ↑b)))).si (r := 111) (j := b) (by decide) (by decide) b1 _
  have v105 : (rhsi (rhsi (rhsi (rhsi (rhsi (rhsi (rhsi (rhsi (rhsi (rhsi (rhsi M 105 b 0) 106 b 0) 107 b 0) 108 b 0) 109 b 999) 110 b 999) 117 b 0) 118 b 0) 119 b 0) 102 36 (500 * J ↑b)) 111 b (500 * J ↑b)).1 105 b = 0 := by simp [si_1]
  have v106 : (rhsi (rhsi (rhsi (rhsi (rhsi (rhsi (rhsi (rhsi (rhsi (rhsi (rhsi M 105 b 0) 106 b 0) 107 b 0) 108 b 0) 109 b 999) 110 b 999) 117 b 0) 118 b 0) 119 b 0) 102 36 (500 * J ↑b)) 111 b (500 * J ↑b)).1 106 b = 0 := by simp [si_1]
  have v107 : (rhsi (rhsi (rhsi (rhsi (rhsi (rhsi (rhsi (rhsi (rhsi (rhsi (rhsi M 105 b 0) 106 b 0) 107 b 0) 108 b 0) 109 b 999) 110 b 999) 117 b 0) 118 b 0) 119 b 0) 102 36 (500 * J ↑b)) 111 b (500 * J ↑b)).1 107 b = 0 := by simp [si_1]
  have v108 : (rhsi (rhsi (rhsi (rhsi (rhsi (rhsi (rhsi (rhsi (rhsi (rhsi (rhsi M 105 b 0) 106 b 0) 107 b 0) 108 b 0) 109 b 999) 110 b 999) 117 b 0) 118 b 0) 119 b 0) 102 36 (500 * J ↑b)) 111 b (500 * J ↑b)).1 108 b = 0 := by simp [si_1]
  have v109 : (rhsi (rhsi (rhsi (rhsi (rhsi (rhsi (rhsi (rhsi (rhsi (rhsi (rhsi M 105 b 0) 106 b 0) 107 b 0) 108 b 0) 109 b 999) 110 b 999) 117 b 0) 118 b 0) 119 b 0) 102 36 (500 * J ↑b)) 111 b (500 * J ↑b)).1 109 b = 999 := by simp [si_1]
  have v110 : (rhsi (rhsi (rhsi (rhsi (rhsi (rhsi (rhsi (rhsi (rhsi (rhsi (rhsi M 105 b 0) 106 b 0) 107 b 0) 108 b 0) 109 b 999) 110 b 999) 117 b 0) 118 b 0) 119 b 0) 102 36 (500 * J ↑b)) 111 b (500 * J ↑b)).1 110 b = 999 := by simp [si_1]
  have v117 : (rhsi (rhsi (rhsi (rhsi (rhsi (rhsi (rhsi (rhsi (rhsi (rhsi (rhsi M 105 b 0) 106 b 0) 107 b 0) 108 b 0) 109 b 999) 110 b 999) 117 b 0) 118 b 0) 119 b 0) 102 36 (500 * J ↑b)) 111 b (500 * J ↑b)).1 117 b = 0 := by simp [si_1]
  have v118 : (rhsi (rhsi (rhsi (rhsi (rhsi (rhsi (rhsi (rhsi (rhsi (rhsi (rhsi M 105 b 0) 106 b 0) 107 b 0) 108 b 0) 109 b 999) 110 b 999) 117 b 0) 118 b 0) 119 b 0) 102 36 (500 * J ↑b)) 111 b (500 * J ↑b)).1 118 b = 0 := by simp [si_1]
  have v119 : (rhsi (rhsi (rhsi (rhsi (rhsi (rhsi (rhsi (rhsi (rhsi (rhsi (rhsi M 105 b 0) 106 b 0) 107 b 0) 108 b 0) 109 b 999) 110 b 999) 117 b 0) 118 b 0) 119 b 0) 102 36 (500 * J ↑b)) 111 b (500 * J ↑b)).1 119 b = 0 := by simp [si_1]
  have v111 : (rhsi (rhsi (rhsi (rhsi (rhsi (rhsi (rhsi (rhsi (rhsi (rhsi (rhsi M 105 b 0) 106 b 0) 107 b 0) 108 b 0) 109 b 999) 110 b 999) 117 b 0) 118 b 0) 119 b 0) 102 36 (500 * J ↑b)) 111 b (500 * J ↑b)).1 111 b = 500 * J b := by simp [si_1]
  have v36 : (rhsi (rhsi (rhsi (rhsi (rhsi (rhsi (rhsi (rhsi (rhsi (rhsi (rhsi M 105 b 0) 106 b 0) 107 b 0) 108 b 0) 109 b 999) 110 b 999) 117 b 0) 118 b 0) 119 b 0) 102 36 (500 * J ↑b)) 111 b (500 * J ↑b)).1 102 36 = 500 * J b := by simp [si_1]
  have v102 : ∀ k, k ≠ 36 → (rhsi (rhsi (rhsi (rhsi (rhsi (rhsi (rhsi (rhsi (rhsi (rhsi (rhsi M 105 b 0) 106 b 0) 107 b 0) 108 b 0) 109 b 999) 110 b 999) 117 b 0) 118 b 0) 119 b 0) 102 36 (500 * J ↑b)) 111 b (500 * J ↑b)).1 102 k = M.1 102 k := fun k hk => by simp [si_1, hk]
  have vl : (rhsi (rhsi (rhsi (rhsi (rhsi (rhsi (rhsi (rhsi (rhsi (rhsi (rhsi M 105 b 0) 106 b 0) 107 b 0) 108 b 0) 109 b 999) 110 b 999) 117 b 0) 118 b 0) 119 b 0) 102 36 (500 * J ↑b)) 111 b (500 * J ↑b)).2.1 = M.2.1 := rfl
  generalize (rhsi (rhsi (rhsi (rhsi (rhsi (rhsi (rhsi (rhsi (rhsi (rhsi (rhsi M 105 b 0) 106 b 0) 107 b 0) 108 b 0) 109 b 999) 110 b 999) 117 b 0) 118 b 0) 119 b 0) 102 36 (500 * J ↑b)) 111 b (500 * J ↑b)) = MA at *
  have EA := hE.yb YA
  refine (y_clear127 hG hb 64 rhFU MA 0 EA.2.1 EA.2.2.2 (by omega) (by omega) (fun j hj => by omega)).mono (fun MB z => ?_)
  obtain ⟨z1, z2, z3⟩ := z
  have o : ∀ r, r ≠ 116 → r ≠ 120 → MB.1 r = MA.1 r ∧ MB.2.1 r = MA.2.1 r := fun r h1 h2 => z2.2 r (by simp only [List.mem_cons, List.not_mem_nil, or_false, not_or]; exact ⟨h1, h2⟩)
  refine ⟨YA.trans z1, ⟨⟨?_, ?_, ?_, ?_, ?_⟩, ⟨fun k hk => (by cases hk), fun k hk => (by cases hk)⟩, fun r hr => (by cases hr), fun h hh => (by cases hh), fun x y hx hy => ?_, ⟨?_, ?_, trivial, trivial⟩, ⟨?_, ?_, ?_⟩, ?_⟩, fun k hk => ?_, ?_⟩
  · rw [(o 105 (by decide) (by decide)).1, v105]; rfl
  · rw [(o 106 (by decide) (by decide)).1, v106]; rfl
  · rw [(o 107 (by decide) (by decide)).1, v107]; rfl
  · rw [(o 109 (by decide) (by decide)).1, v109]; rfl
  · rw [(o 110 (by decide) (by decide)).1, v110]; rfl
  · have := z3 (8 * x + y) (by omega)
    rw [show 64 * b + 8 * x + y = 64 * b + (8 * x + y) by omega, this.1, this.2]
    exact ⟨rfl, rfl⟩
  · rw [(o 102 (by decide) (by decide)).1, v36, e500]; rfl
  · rw [(o 108 (by decide) (by decide)).1, v108]; rfl
  · rw [(o 117 (by decide) (by decide)).1, v117]; rfl
  · rw [(o 118 (by decide) (by decide)).1, v118]; rfl
  · rw [(o 119 (by decide) (by decide)).1, v119]; rfl
  · rw [(o 111 (by decide) (by decide)).1, v111, e500]; rfl
  · rw [(o 102 (by decide) (by decide)).1]; exact v102 k hk
  · rw [(o 102 (by decide) (by decide)).2, vl]
end
