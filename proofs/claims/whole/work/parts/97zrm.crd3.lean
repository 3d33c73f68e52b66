section
variable {Γ : rhG} {M : rhM} {bs : List Int32} {s : Ps}
theorem qk2_let {i : Nat} (h : qk bs i = 2 ∨ qk bs i = 3) : isLe (bt bs (qp bs i)) = true := by
  by_cases c : isLe (bt bs (qp bs i)) = true
  · exact c
  · unfold qk at h
    rw [if_neg c] at h
    exfalso
    by_cases c2 : isDi (bt bs (qp bs i)) = true
    · rw [if_pos c2] at h; split at h <;> omega
    · rw [if_neg c2] at h
      split at h
      · split at h <;> omega
      · omega
theorem c_takeTold (hG : GK Γ) (h : CS M bs s) {a n0 : Nat} (hk : Γ.2.2.1 a = 16) (hn0 : Γ.2.2.2 a = n0) {H : List (List Nat)} (hH : H.length ≤ n0) (h100 : n0 ≤ 100) (hN : CN M a H) : wp (f_X4_takeToldName Γ M 3 a (J H.length)) (fun r => r.1 = J (tTold bs H s).1 ∧ CX M r.2 ∧ CS r.2 bs (tTold bs H s).2) := by
  obtain ⟨h1, h2, h3, h4, h5, h6⟩ := id h
  have hbig := FU_big
  have hk5 : qk bs s.1 ≤ 5 := by unfold qk; (repeat' split) <;> omega
  have hr : wp (f_X4_takeToldName_18 Γ M 3) (fun r => r.1 = J (0 : Nat) ∧ CX M r.2 ∧ CS r.2 bs (rfu bs s)) := by
    rw [f_X4_takeToldName_18, wp_ck_t (GKk3 hG), wp_bind]
    exact (c_refuse hG h).mono (fun M' z => (wp_some _ _).mpr ⟨rfl, z⟩)
  rw [f_X4_takeToldName, wp_ck_t (GKk3 hG), h4]
  by_cases c : s.2.1 = 0
  · rw [wp_ite_t (by rw [c]; rfl), h3, wp_ck_t (GKk4 hG), h1.2.2.2.1]
    by_cases c2 : qk bs s.1 = 2
    · have hl := qw_let (qk2_let (Or.inl c2))
      rw [wp_ite_t (by rw [c2]; rfl), h1.2.2.2.2.2.2.1 c2, wp_bind, f_X4_numberOf]
      have e := c_numberOf (Γ := Γ) (M := M) hk hn0 hH h100 hN hl.1 hl.2 rhFU 0 (by omega) (by omega) (fun j hj => by omega)
      rw [show ((0 : Nat) : Int) = 0 from rfl] at e
      rw [show (0 : Int32) = J 0 from rfl, e, wp_some]
      by_cases c3 : qw bs s.1 ∈ H
      · have hx := List.idxOf_lt_length_of_mem c3
        rw [show tTold bs H s = (H.idxOf (qw bs s.1), adv bs s) by unfold tTold; rw [if_neg (fun q => q.elim (fun z => z c) (fun z => z c2)), if_pos c3], if_pos c3, wp_ite_f (by rw [show (-1 : Int32) = J (-1) from rfl, J_eq (by omega) (by omega) (by omega) (by omega)]; omega), wp_bind]
        exact (c_adv hG h).mono (fun M' z => (wp_some _ _).mpr ⟨rfl, z⟩)
      · rw [show tTold bs H s = (0, bla 5 (qp bs s.1) s) by unfold tTold; rw [if_neg (fun q => q.elim (fun z => z c) (fun z => z c2)), if_neg c3], if_neg c3, wp_ite_t (show J (-1) = -1 from rfl), wp_bind, h1.2.2.1]
        exact (c_blame hG h (k := 5) (by decide)).mono (fun M' z => (wp_some _ _).mpr ⟨rfl, z⟩)
    · rw [wp_ite_f (by rw [show (2 : Int32) = J 2 from rfl, J_eq (by omega) (by omega) (by omega) (by omega)]; omega), show tTold bs H s = (0, rfu bs s) by unfold tTold; rw [if_pos (Or.inr c2)]]; exact hr
  · rw [wp_ite_f (by rw [show (0 : Int32) = J 0 from rfl, J_eq (by omega) (by omega) (by omega) (by omega)]; omega), show tTold bs H s = (0, rfu bs s) by unfold tTold; rw [if_pos (Or.inl c)]]; exact hr
theorem c_takeNew (hG : GK Γ) (h : CS M bs s) {a n0 : Nat} (hk : Γ.2.2.1 a = 16) (hn0 : Γ.2.2.2 a = n0) {H : List (List Nat)} (hH : H.length ≤ n0) (h100 : n0 ≤ 100) (hN : CN M a H) : wp (f_X4_takeNewName Γ M 3 a (J H.length)) (fun r => (r.1 = jl (enc (tNew bs H s).1) ∧ (tNew bs H s).1.length ≤ 8 ∧ ∀ c, c ∈ (tNew bs H s).1 → 97 ≤ c ∧ c ≤ 122) ∧ CX M r.2 ∧ CS r.2 bs (tNew bs H s).2) := by
  obtain ⟨h1, h2, h3, h4, h5, h6⟩ := id h
  have hbig := FU_big
  have hk5 : qk bs s.1 ≤ 5 := by unfold qk; (repeat' split) <;> omega
  have hr : wp (f_X4_takeNewName_18 Γ M 3) (fun r => (r.1 = jl (enc []) ∧ ([] : List Nat).length ≤ 8 ∧ ∀ c, c ∈ ([] : List Nat) → 97 ≤ c ∧ c ≤ 122) ∧ CX M r.2 ∧ CS r.2 bs (rfu bs s)) := by
    rw [f_X4_takeNewName_18, wp_ck_t (GKk3 hG), wp_bind]
    exact (c_refuse hG h).mono (fun M' z => (wp_some _ _).mpr ⟨⟨rfl, by decide, fun c hc => by cases hc⟩, z⟩)
  rw [f_X4_takeNewName, wp_ck_t (GKk3 hG), h4]
  by_cases c : s.2.1 = 0
  · rw [wp_ite_t (by rw [c]; rfl), h3, wp_ck_t (GKk4 hG), h1.2.2.2.1]
    by_cases c2 : qk bs s.1 = 2
    · have hl := qw_let (qk2_let (Or.inl c2))
      have eT : tNew bs H s = (qw bs s.1, adv bs (if qw bs s.1 ∈ H then bla 3 (qp bs s.1) s else s)) := by unfold tNew; rw [if_neg (fun q => q.elim (fun z => z c) (fun z => z c2))]
      have go : ∀ (M1 : rhM) (s1 : Ps), CX M M1 → CS M1 bs s1 → wp (f_X4_takeNewName_54 Γ M1 3 (jl (enc (qw bs s.1)))) (fun r => (r.1 = jl (enc (qw bs s.1)) ∧ (qw bs s.1).length ≤ 8 ∧ ∀ c, c ∈ qw bs s.1 → 97 ≤ c ∧ c ≤ 122) ∧ CX M r.2 ∧ CS r.2 bs (adv bs s1)) := fun M1 s1 x y => by
        rw [f_X4_takeNewName_54, wp_ck_t (GKk3 hG), y.2.2.1, wp_ck_t (GKk4 hG), wp_bind]
        exact (c_adv hG y).mono (fun M' z => (wp_some _ _).mpr ⟨⟨rfl, hl⟩, x.trans z.1, z.2⟩)
      rw [eT, wp_ite_t (by rw [c2]; rfl), h1.2.2.2.2.2.2.1 c2, wp_bind, f_X4_numberOf]
      have e := c_numberOf (Γ := Γ) (M := M) hk hn0 hH h100 hN hl.1 hl.2 rhFU 0 (by omega) (by omega) (fun j hj => by omega)
      rw [show ((0 : Nat) : Int) = 0 from rfl] at e
      rw [show (0 : Int32) = J 0 from rfl, e, wp_some]
      by_cases c3 : qw bs s.1 ∈ H
      · have hx := List.idxOf_lt_length_of_mem c3
        rw [if_pos c3, if_pos c3, wp_ite_f (by rw [show (-1 : Int32) = J (-1) from rfl, J_eq (by omega) (by omega) (by omega) (by omega)]; omega), wp_bind, h1.2.2.1]
        exact (c_blame hG h (k := 3) (by decide)).mono (fun M' z => go M' _ z.1 z.2)
      · rw [if_neg c3, if_neg c3, wp_ite_t (show J (-1) = -1 from rfl)]
        exact go M s (CX.refl _) h
    · rw [wp_ite_f (by rw [show (2 : Int32) = J 2 from rfl, J_eq (by omega) (by omega) (by omega) (by omega)]; omega), show tNew bs H s = ([], rfu bs s) by unfold tNew; rw [if_pos (Or.inr c2)]]; exact hr
  · rw [wp_ite_f (by rw [show (0 : Int32) = J 0 from rfl, J_eq (by omega) (by omega) (by omega) (by omega)]; omega), show tNew bs H s = ([], rfu bs s) by unfold tNew; rw [if_pos (Or.inl c)]]; exact hr
end
