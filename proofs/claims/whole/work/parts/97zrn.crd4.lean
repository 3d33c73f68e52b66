section
variable {Γ : rhG} {M : rhM} {bs : List Int32} {s : Ps}
theorem tNum_le {a b p : Nat} (ha : a ≤ 9999) : (tNum bs a b p s).1 ≤ 9999 := by
  by_cases c : s.2.1 ≠ 0 ∨ qk bs s.1 ≠ 4
  · have : tNum bs a b p s = (a, rfu bs s) := by unfold tNum; rw [if_pos c]
    rw [this]; exact ha
  · have : (tNum bs a b p s).1 = qv bs s.1 := by unfold tNum; rw [if_neg c]
    rw [this]; exact qv_le (by omega)
theorem c_takeSigned (hG : GK Γ) (h : CS M bs s) {b : Nat} (hb : b < 10000) : wp (f_X4_takeSignedNumber Γ M 3 (J b)) (fun r => r.1 = J (tSNum bs b s).1 ∧ CX M r.2 ∧ CS r.2 bs (tSNum bs b s).2) := by
  obtain ⟨h1, h2, h3, h4, h5, h6⟩ := id h
  have hx := qs_rng h1.1.2.2.2.2.2.2 s.1
  have hr : ¬ (s.2.1 = 0 ∧ qs bs s.1 = 45) → wp (f_X4_takeSignedNumber_43 Γ M 3 (J b) (J (qp bs s.1))) (fun r => r.1 = J (tSNum bs b s).1 ∧ CX M r.2 ∧ CS r.2 bs (tSNum bs b s).2) := fun q => by
    rw [f_X4_takeSignedNumber_43, wp_ck_t (GKk3 hG), wp_bind]
    rw [show tSNum bs b s = (((tNum bs 0 b (qp bs s.1) s).1 : Int), (tNum bs 0 b (qp bs s.1) s).2) by unfold tSNum; rw [if_neg q]]
    exact (c_takeNumber hG h (a := 0) (by decide) hb).mono (fun r z => (wp_some _ _).mpr z)
  rw [f_X4_takeSignedNumber, wp_ck_t (GKk3 hG), h3, wp_ck_t (GKk4 hG), h4, h1.2.2.1]
  show wp (if J s.2.1 = 0 then _ else _) _
  by_cases c : s.2.1 = 0
  · rw [wp_ite_t (by rw [c]; rfl), h1.2.2.2.2.2.1]
    by_cases c2 : qs bs s.1 = 45
    · rw [wp_ite_t (by rw [c2]; rfl), wp_bind]
      rw [show tSNum bs b s = (-((tNum bs 0 b (qp bs s.1) (adv bs s)).1 : Int), (tNum bs 0 b (qp bs s.1) (adv bs s)).2) by unfold tSNum; rw [if_pos ⟨c, c2⟩]]
      refine (c_adv hG h).mono (fun M1 z => ?_)
      rw [wp_bind]
      refine (c_takeNumber hG z.2 (a := 0) (b := b) (p := qp bs s.1) (by decide) hb).mono (fun r y => (wp_some _ _).mpr ⟨?_, z.1.trans y.2.1, y.2.2⟩)
      show -r.1 = _
      rw [y.1, J_neg]
    · rw [wp_ite_f (by rw [show (45 : Int32) = J 45 from rfl, J_eq (by omega) (by omega) (by omega) (by omega)]; exact c2)]
      exact hr (fun q => c2 q.2)
  · rw [wp_ite_f (by rw [show (0 : Int32) = J 0 from rfl, J_eq (by omega) (by omega) (by omega) (by omega)]; omega)]
    exact hr (fun q => c q.1)
/-- a law's code so far, in the class -/
def CE (M : rhM) (t : Nat) (e : List (Nat × Nat) × Nat) : Prop := M.1 (t + 6) 0 = J e.2 ∧ M.1 (t + 6) 1 = J e.1.length ∧ Sg (M.1 (t + 7)) 0 (e.1.map fun o => o.1) ∧ Sg (M.1 (t + 8)) 0 (e.1.map fun o => o.2)
theorem CE.fr {M M' : rhM} {t : Nat} {e : List (Nat × Nat) × Nat} {W : List Nat} (h : CE M t e) (hF : Fr W M M') (h6 : t + 6 ∉ W) (h7 : t + 7 ∉ W) (h8 : t + 8 ∉ W) : CE M' t e := by
  unfold CE
  rw [hF.i h6, hF.i h7, hF.i h8]; exact h
theorem c_addStep {t : Nat} (hS : TSh Γ M t) {cd : List (Nat × Nat)} {un : Nat} (hE : CE M t (cd, un)) (hl : cd.length < 512) (k n : Nat) : wp (f_X1_addStep Γ M (t + 6) (J k) (J n)) (fun M' => Fr [t + 6, t + 7, t + 8] M M' ∧ CE M' t (cd ++ [(k, n)], un)) := by
  obtain ⟨s0, s1, s2, s3, s4, s5, s6, s7, s8, s9, s10, -, r2, r3, r4, r5⟩ := hS
  obtain ⟨e0, e1, e2, e3⟩ := hE
  have e1 : M.1 (t + 6) 1 = J cd.length := e1
  rw [f_X1_addStep, wp_ck_t s6, e1, r2, r3, wp_ite_t (by rw [show (512 : Int32) = J 512 from rfl, J_lt (by omega) (by omega) (by omega) (by omega)]; omega), wp_ck_t s7.1, wp_ck_t (by rw [J_toInt (by omega) (by omega), s7.2]; omega), J_clamp (by omega) (by omega), Int.toNat_natCast]
  have i1 : (rhsi M (t + 7) cd.length (J k)).1 (t + 6) 1 = J cd.length := by rw [si_1, if_neg (by omega)]; exact e1
  simp only [i1]
  rw [wp_ck_t s8.1, wp_ck_t (by rw [J_toInt (by omega) (by omega), s8.2]; omega), J_clamp (by omega) (by omega), Int.toNat_natCast]
  have i2 : (rhsi (rhsi M (t + 7) cd.length (J k)) (t + 8) cd.length (J n)).1 (t + 6) 1 = J cd.length := by rw [si_1, if_neg (by omega)]; exact i1
  simp only [i2]
  have F : Fr [t + 6, t + 7, t + 8] M (rhsi (rhsi (rhsi M (t + 7) cd.length (J k)) (t + 8) cd.length (J n)) (t + 6) 1 (J cd.length + 1)) := (((Fr.refl _ _).si (by simp) _ _).si (by simp) _ _).si (by simp) _ _
  refine (wp_some _ _).mpr ⟨F, ?_, ?_, ?_, ?_⟩
  · rw [si_1, if_neg (by omega), si_1, if_neg (by omega), si_1, if_neg (by omega)]; exact e0
  · rw [si_1, if_pos ⟨rfl, rfl⟩, show (1 : Int32) = J 1 from rfl, J_add, List.length_append]; rfl
  · show Sg _ 0 ((cd ++ [(k, n)]).map fun o => o.1)
    rw [List.map_append, Sg_app]
    refine ⟨Sg_cong _ _ (fun i h1 h2 => ?_) e2, ?_, trivial⟩
    · rw [List.length_map] at h2
      rw [si_1, if_neg (by omega), si_1, if_neg (by omega), si_1, if_neg (by omega)]
    · rw [List.length_map, si_1, if_neg (by omega), si_1, if_neg (by omega), si_1, if_pos ⟨rfl, by omega⟩]
  · show Sg _ 0 ((cd ++ [(k, n)]).map fun o => o.2)
    rw [List.map_append, Sg_app]
    refine ⟨Sg_cong _ _ (fun i h1 h2 => ?_) e3, ?_, trivial⟩
    · rw [List.length_map] at h2
      rw [si_1, if_neg (by omega), si_1, if_neg (by omega), si_1, if_neg (by omega)]
    · rw [List.length_map, si_1, if_neg (by omega), si_1, if_pos ⟨rfl, by omega⟩]
end
