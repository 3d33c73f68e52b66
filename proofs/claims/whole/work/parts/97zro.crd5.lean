section
variable {Γ : rhG} {M : rhM} {bs : List Int32}
theorem c_addUnit {t : Nat} (hS : TSh Γ M t) {cd : List (Nat × Nat)} {un : Nat} (hE : CE M t (cd, un)) (hl : cd.length < 512) (k n : Nat) : wp (f_X1_addUnit Γ M (t + 6) (J k) (J n)) (fun M' => Fr [t + 6, t + 7, t + 8] M M' ∧ CE M' t (cd ++ [(k, n)], un + 1)) := by
  have s6 := hS.2.2.2.2.2.2.1
  obtain ⟨e0, e1, e2, e3⟩ := hE
  have e0 : M.1 (t + 6) 0 = J un := e0
  have F : Fr [t + 6, t + 7, t + 8] M (rhsi M (t + 6) 0 (J ((un + 1 : Nat) : Int))) := (Fr.refl _ _).si (by simp) _ _
  rw [f_X1_addUnit, wp_ck_t s6, e0, show (1 : Int32) = J 1 from rfl, J_add, J_suc, wp_bind]
  have hE' : CE (rhsi M (t + 6) 0 (J ((un + 1 : Nat) : Int))) t (cd, un + 1) := by
    have i7 : (rhsi M (t + 6) 0 (J ((un + 1 : Nat) : Int))).1 (t + 7) = M.1 (t + 7) := by funext j; rw [si_1, if_neg (by omega)]
    have i8 : (rhsi M (t + 6) 0 (J ((un + 1 : Nat) : Int))).1 (t + 8) = M.1 (t + 8) := by funext j; rw [si_1, if_neg (by omega)]
    refine ⟨by rw [si_1, if_pos ⟨rfl, rfl⟩], by rw [si_1, if_neg (by omega)]; exact e1, by rw [i7]; exact e2, by rw [i8]; exact e3⟩
  exact (c_addStep (hS.fr F.1) hE' hl k n).mono (fun M' z => (wp_some _ _).mpr ⟨F.trans z.1, z.2⟩)
theorem c_isGiven {z : Int} (h : -2147483648 ≤ z ∧ z < 2147483648) : f_X1_isGiven Γ M (J z) = some (if isGv z = true then 1 else 0) := by
  have e6 : (J z = 6) = (z = 6) := by rw [show (6 : Int32) = J 6 from rfl, J_eq (by omega) (by omega) (by omega) (by omega)]
  have e7 : (J z = 7) = (z = 7) := by rw [show (7 : Int32) = J 7 from rfl, J_eq (by omega) (by omega) (by omega) (by omega)]
  have e13 : (J z < 13) = (z < 13) := by rw [show (13 : Int32) = J 13 from rfl, J_lt (by omega) (by omega) (by omega) (by omega)]
  have e16 : (16 < J z) = (16 < z) := by rw [show (16 : Int32) = J 16 from rfl, J_lt (by omega) (by omega) (by omega) (by omega)]
  unfold f_X1_isGiven isGv
  by_cases c6 : z = 6
  · rw [if_pos (by rw [e6]; exact c6), if_pos (by rw [decide_eq_true_eq]; omega)]
  rw [if_neg (by rw [e6]; exact c6)]
  by_cases c7 : z = 7
  · rw [if_pos (by rw [e7]; exact c7), if_pos (by rw [decide_eq_true_eq]; omega)]
  rw [if_neg (by rw [e7]; exact c7)]
  by_cases c13 : z < 13
  · rw [if_pos (by rw [e13]; exact c13), if_neg (by rw [decide_eq_true_eq]; omega)]
  rw [if_neg (by rw [e13]; exact c13)]
  by_cases c16 : 16 < z
  · rw [if_pos (by rw [e16]; exact c16), if_neg (by rw [decide_eq_true_eq]; omega)]
  · rw [if_neg (by rw [e16]; exact c16), if_pos (by rw [decide_eq_true_eq]; omega)]
end
