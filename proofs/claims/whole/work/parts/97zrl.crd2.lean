section
variable {Γ : rhG} {M : rhM} {bs : List Int32} {s : Ps}
theorem c_takeNumber (hG : GK Γ) (h : CS M bs s) {a b p : Nat} (ha : a < 10000) (hb : b < 10000) : wp (f_X4_takeNumber Γ M 3 (J a) (J b) (J p)) (fun r => r.1 = J (tNum bs a b p s).1 ∧ CX M r.2 ∧ CS r.2 bs (tNum bs a b p s).2) := by
  obtain ⟨h1, h2, h3, h4, h5, h6⟩ := id h
  have hk : qk bs s.1 ≤ 5 := by unfold qk; (repeat' split) <;> omega
  have hr : wp (f_X4_takeNumber_18 Γ M 3 (J a)) (fun r => r.1 = J a ∧ CX M r.2 ∧ CS r.2 bs (rfu bs s)) := by
    rw [f_X4_takeNumber_18, wp_ck_t (GKk3 hG), wp_bind]
    exact (c_refuse hG h).mono (fun M' z => (wp_some _ _).mpr ⟨rfl, z⟩)
  rw [f_X4_takeNumber, wp_ck_t (GKk3 hG), h4]
  by_cases c : s.2.1 = 0
  · rw [wp_ite_t (by rw [c]; rfl), h3, wp_ck_t (GKk4 hG), h1.2.2.2.1]
    by_cases c2 : qk bs s.1 = 4
    · have hv := qv_le c2
      have eT : tNum bs a b p s = (qv bs s.1, adv bs (if qv bs s.1 < a ∨ b < qv bs s.1 then bla 4 p s else s)) := by unfold tNum; rw [if_neg (fun q => q.elim (fun z => z c) (fun z => z c2))]
      rw [eT, wp_ite_t (by rw [c2]; rfl), h1.2.2.2.2.2.2.2 c2]
      have go : ∀ (M1 : rhM) (s1 : Ps), CX M M1 → CS M1 bs s1 → s1.1 = s.1 → wp (f_X4_takeNumber_51 Γ M1 3 (J (qv bs s.1))) (fun r => r.1 = J (qv bs s.1) ∧ CX M r.2 ∧ CS r.2 bs (adv bs s1)) := fun M1 s1 x y e => by
        rw [f_X4_takeNumber_51, wp_ck_t (GKk3 hG), y.2.2.1, wp_ck_t (GKk4 hG), wp_bind]
        exact (c_adv hG y).mono (fun M' z => (wp_some _ _).mpr ⟨rfl, x.trans z.1, z.2⟩)
      have bad : wp (f_X4_takeNumber_45 (f_X4_takeNumber_51 Γ) Γ M 3 (J p) (J (qv bs s.1))) (fun r => r.1 = J (qv bs s.1) ∧ CX M r.2 ∧ CS r.2 bs (adv bs (bla 4 p s))) := by
        rw [f_X4_takeNumber_45, wp_ck_t (GKk3 hG), wp_bind]
        exact (c_blame hG h (k := 4) (p := p) (by decide)).mono (fun M' z => go M' _ z.1 z.2 (by unfold bla; split <;> rfl))
      by_cases c3 : qv bs s.1 < a
      · rw [wp_ite_t (by rw [J_lt (by omega) (by omega) (by omega) (by omega)]; omega), if_pos (Or.inl c3)]; exact bad
      · rw [wp_ite_f (by rw [J_lt (by omega) (by omega) (by omega) (by omega)]; omega)]
        by_cases c4 : b < qv bs s.1
        · rw [wp_ite_t (by rw [J_lt (by omega) (by omega) (by omega) (by omega)]; omega), if_pos (Or.inr c4)]; exact bad
        · rw [wp_ite_f (by rw [J_lt (by omega) (by omega) (by omega) (by omega)]; omega), if_neg (fun q => q.elim c3 c4)]; exact go M s (CX.refl _) h rfl
    · rw [wp_ite_f (by rw [show (4 : Int32) = J 4 from rfl, J_eq (by omega) (by omega) (by omega) (by omega)]; omega), show tNum bs a b p s = (a, rfu bs s) by unfold tNum; rw [if_pos (Or.inr c2)]]; exact hr
  · rw [wp_ite_f (by rw [show (0 : Int32) = J 0 from rfl, J_eq (by omega) (by omega) (by omega) (by omega)]; omega), show tNum bs a b p s = (a, rfu bs s) by unfold tNum; rw [if_pos (Or.inl c)]]; exact hr
/-- names kept by number -/
def CN (M : rhM) (a : Nat) (H : List (List Nat)) : Prop := ∀ k, k < H.length → M.2.1 a k = jl (enc (H.getD k [])) ∧ (H.getD k []).length ≤ 8 ∧ ∀ c, c ∈ H.getD k [] → 97 ≤ c ∧ c ≤ 122
theorem en_eq {v w : List Nat} (g1 : v.length ≤ 8) (g2 : ∀ c, c ∈ v → 97 ≤ c ∧ c ≤ 122) (hl : w.length ≤ 8) (hw : ∀ c, c ∈ w → 97 ≤ c ∧ c ≤ 122) : jl (enc v) = jl (enc w) ↔ v = w := by
  have f : ∀ l : List Nat, (∀ c, c ∈ l → 97 ≤ c ∧ c ≤ 122) → ∀ c, c ∈ l → 96 < c ∧ c - 96 < 32 := fun l h c hc => by have := h c hc; omega
  have b : ∀ l : List Nat, l.length ≤ 8 → (∀ c, c ∈ l → 97 ≤ c ∧ c ≤ 122) → enb 32 96 l < 2 ^ 64 := fun l h1 h2 => by
    have h3 := enb_lt (m := 32) (s := 96) (by decide) l.length l rfl (f l h2)
    have h4 : 32 ^ l.length ≤ 32 ^ 8 := Nat.pow_le_pow_right (by decide) h1
    have h5 : (32 : Nat) ^ 8 < 2 ^ 64 := by decide
    omega
  rw [enc_enb, enc_enb, jl_inj (b _ g1 g2) (b _ hl hw)]
  exact ⟨fun h => enb_inj _ _ _ rfl (f _ g2) (f _ hw) h, fun h => by rw [h]⟩
theorem idx_at {w : List Nat} : ∀ (H : List (List Nat)) (k : Nat), k < H.length → H.getD k [] = w → (∀ j, j < k → H.getD j [] ≠ w) → H.idxOf w = k
  | x :: H, 0, _, h, _ => by
    rw [List.getD_cons_zero] at h
    rw [List.idxOf_cons, h]; simp
  | x :: H, k + 1, hk, h, hj => by
    have h0 := hj 0 (by omega)
    rw [List.getD_cons_zero] at h0
    rw [List.getD_cons_succ] at h
    rw [List.idxOf_cons, idx_at H k (by rw [List.length_cons] at hk; omega) h (fun j h1 => by have := hj (j + 1) (by omega); rw [List.getD_cons_succ] at this; exact this)]
    have : (x == w) = false := by simpa using h0
    rw [this]; rfl
theorem c_numberOf {a n0 : Nat} (hk : Γ.2.2.1 a = 16) (hn0 : Γ.2.2.2 a = n0) {H : List (List Nat)} (hH : H.length ≤ n0) (h100 : n0 ≤ 100) (hN : CN M a H) {w : List Nat} (hl : w.length ≤ 8) (hw : ∀ c, c ∈ w → 97 ≤ c ∧ c ≤ 122) :
    ∀ (n k : Nat), k ≤ H.length → H.length - k < n → (∀ j, j < k → H.getD j [] ≠ w) → f_X4_numberOf_3 Γ M n (jl (enc w)) a (J H.length) (J k) = some (if w ∈ H then J (H.idxOf w : Nat) else J (-1)) := by
  intro n
  induction n with
  | zero => intro k _ h; omega
  | succ n ih =>
    intro k hkl hn hj
    rw [f_X4_numberOf_3]
    by_cases c : k < H.length
    · obtain ⟨g0, g1, g2⟩ := hN k c
      have eg : H.getD k [] = H[k] := by rw [List.getD_eq_getElem?_getD, List.getElem?_eq_getElem c]; rfl
      rw [if_pos (by rw [J_lt (by omega) (by omega) (by omega) (by omega)]; omega), rhck_t hk, hn0, show Int32.ofNat n0 = J n0 from (Int32.ofInt_eq_ofNat (n := n0)).symm, if_pos (by rw [J_lt (by omega) (by omega) (by omega) (by omega)]; omega), rhck_t (by rw [J_toInt (by omega) (by omega)]; omega), J_clamp (by omega) (by omega), Int.toNat_natCast, g0]
      by_cases c1 : H.getD k [] = w
      · have hm : w ∈ H := by rw [← c1, eg]; exact List.getElem_mem c
        rw [if_pos (by rw [c1]), if_pos hm]
        have : H.idxOf w = k := by
          exact idx_at H k c c1 hj
        rw [this]
      · rw [if_neg (fun h => c1 ((en_eq g1 g2 hl hw).mp h))]
        show f_X4_numberOf_3 Γ M n (jl (enc w)) a (J H.length) (J k + 1) = _
        rw [show (1 : Int32) = J 1 from rfl, J_add, J_suc]
        refine ih (k + 1) (by omega) (by omega) (fun j h1 => ?_)
        by_cases c2 : j = k
        · rw [c2]; exact c1
        · exact hj j (by omega)
    · rw [if_neg (by rw [J_lt (by omega) (by omega) (by omega) (by omega)]; omega)]
      have hm : w ∉ H := by
        intro h
        obtain ⟨j, h1, h2⟩ := List.getElem_of_mem h
        exact hj j (by omega) (by rw [List.getD_eq_getElem?_getD, List.getElem?_eq_getElem h1, ← h2]; rfl)
      rw [if_neg hm]; rfl
end
