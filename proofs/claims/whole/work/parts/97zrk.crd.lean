/-! THE CLASS'S READER: its small steps -/
theorem CB.fr {M M' : rhM} {bs : List Int32} {W : List Nat} (h : CB M bs) (hF : Fr W M M') (h2 : 2 ∉ W) (h4 : 4 ∉ W) (h5 : 5 ∉ W) : CB M' bs := by
  obtain ⟨b0, b1, b2, b3, b4, b5, b6⟩ := h
  refine ⟨by rw [hF.1]; exact b0, by rw [hF.1]; exact b1, by rw [hF.i h4]; exact b2, by rw [hF.i h2]; exact b3, b4, ?_, b6⟩
  intro i hi
  rw [hF.l h5]; exact b5 i hi
theorem CT.fr {M M' : rhM} {bs : List Int32} {i : Nat} {W : List Nat} (h : CT M bs i) (hF : Fr W M M') (h2 : 2 ∉ W) (h4 : 4 ∉ W) (h5 : 5 ∉ W) : CT M' bs i := by
  obtain ⟨c0, c1⟩ := h
  refine ⟨c0.fr hF h2 h4 h5, ?_⟩
  rw [hF.i h4, hF.l h4]; exact c1
def CS (M : rhM) (bs : List Int32) (s : Ps) : Prop := CT M bs s.1 ∧ s.1 ≤ bs.length ∧ M.2.2 3 2 = 4 ∧ M.1 3 0 = J s.2.1 ∧ (s.2.1 ≠ 0 → M.1 3 1 = J s.2.2) ∧ s.2.1 ≤ 6
def CX (M M' : rhM) : Prop := Fr [3, 4] M M' ∧ ∀ k, k ≠ 0 → k ≠ 1 → M'.1 3 k = M.1 3 k
theorem CX.refl (M : rhM) : CX M M := ⟨Fr.refl _ _, fun _ _ _ => rfl⟩
theorem CX.trans {M M' M'' : rhM} (h : CX M M') (h2 : CX M' M'') : CX M M'' := ⟨h.1.trans h2.1, fun k a b => (h2.2 k a b).trans (h.2 k a b)⟩
theorem CX.f4 {M M' : rhM} (h : Fr [4] M M') : CX M M' := ⟨h.sub (fun r hr => by rw [List.mem_singleton] at hr; rw [hr]; simp), fun k _ _ => by rw [h.i (by simp)]⟩
section
variable {Γ : rhG} {M : rhM} {bs : List Int32} {s : Ps}
theorem c_blame (hG : GK Γ) (h : CS M bs s) {k p : Nat} (hk : 1 ≤ k ∧ k ≤ 6) : wp (f_X4_blame Γ M 3 (J k) (J p)) (fun M' => CX M M' ∧ CS M' bs (bla k p s)) := by
  obtain ⟨h1, h2, h3, h4, h5, h6⟩ := id h
  unfold bla
  rw [f_X4_blame, wp_ck_t (GKk3 hG), h4]
  by_cases c : s.2.1 = 0
  · rw [wp_ite_t (by rw [c]; rfl), if_pos c]
    have F : Fr [3] M (rhsi (rhsi M 3 0 (J k)) 3 1 (J p)) := ((Fr.refl _ _).si (by simp) _ _).si (by simp) _ _
    refine (wp_some _ _).mpr ⟨⟨F.sub (fun r hr => by rw [List.mem_singleton] at hr; rw [hr]; simp), fun j a b => by rw [si_1, if_neg (by omega), si_1, if_neg (by omega)]⟩, h1.fr F (by simp) (by simp) (by simp), h2, h3, ?_, fun _ => ?_, hk.2⟩
    · rw [si_1, if_neg (by decide), si_1, if_pos ⟨rfl, rfl⟩]
    · rw [si_1, if_pos ⟨rfl, rfl⟩]
  · rw [wp_ite_f (by rw [show (0 : Int32) = J 0 from rfl, J_eq (by omega) (by omega) (by omega) (by omega)]; omega), wp_some, if_neg c]
    exact ⟨CX.refl _, h⟩
theorem c_refuse (hG : GK Γ) (h : CS M bs s) : wp (f_X4_refuse Γ M 3) (fun M' => CX M M' ∧ CS M' bs (rfu bs s)) := by
  obtain ⟨h1, h2, h3, h4, h5, h6⟩ := id h
  have hk : qk bs s.1 ≤ 5 := by unfold qk; (repeat' split) <;> omega
  have e : ∀ k : Nat, 1 ≤ k ∧ k ≤ 6 → k = (if qk bs s.1 = 1 then 1 else 2) → wp (f_X4_refuse_17 Γ M 3 3 (J k)) (fun M' => CX M M' ∧ CS M' bs (rfu bs s)) := fun k hk e => by
    rw [f_X4_refuse_17, wp_ck_t (GKk3 hG), h3, wp_ck_t (GKk4 hG), wp_ck_t (GKk3 hG), wp_bind, h1.2.2.1]
    refine (c_blame hG h hk).mono (fun M' q => (wp_some _ _).mpr ?_)
    unfold rfu
    rw [← e]; exact q
  rw [f_X4_refuse, wp_ck_t (GKk3 hG), h3, wp_ck_t (GKk4 hG), h1.2.2.2.1]
  by_cases c : qk bs s.1 = 1
  · rw [wp_ite_t (by rw [c]; rfl)]
    exact e 1 (by decide) (by rw [if_pos c])
  · rw [wp_ite_f (by rw [show (1 : Int32) = J 1 from rfl, J_eq (by omega) (by omega) (by omega) (by omega)]; omega)]
    exact e 2 (by decide) (by rw [if_neg c])
theorem c_adv (hG : GK Γ) (h : CS M bs s) : wp (f_X8_advance Γ M 4) (fun M' => CX M M' ∧ CS M' bs (adv bs s)) := by
  obtain ⟨h1, h2, h3, h4, h5, h6⟩ := id h
  have hn := qn_le h2
  obtain ⟨M', e, hQ⟩ : wp (f_X8_advance Γ M 4) (fun M' => Fr [4] M M' ∧ CT M' bs (qn bs s.1)) := c_advance hG h1.1 h1.2.1 hn.2 (fun M' a b => ⟨a, b⟩)
  refine ⟨M', e, CX.f4 hQ.1, hQ.2, hn.2, by rw [hQ.1.1]; exact h3, by rw [hQ.1.i (by simp)]; exact h4, fun q => by rw [hQ.1.i (by simp)]; exact h5 q, h6⟩
theorem c_advU (hG : GK Γ) (h : CS M bs s) {c : Prop} [Decidable c] {v : Int32} (hv : v = if c then 1 else 0) : wp (f_X4_advanceUnless Γ M 3 v) (fun M' => CX M M' ∧ CS M' bs (advU bs c s)) := by
  have h3 := h.2.2.1
  unfold advU
  rw [f_X4_advanceUnless, hv]
  by_cases q : c
  · rw [if_pos q, if_pos q, wp_ite_f (by decide), wp_ck_t (GKk3 hG), wp_bind]
    exact (c_refuse hG h).mono (fun M' z => (wp_some _ _).mpr z)
  · rw [if_neg q, if_neg q, wp_ite_t rfl, wp_ck_t (GKk3 hG), h3, wp_ck_t (GKk4 hG), wp_bind]
    exact (c_adv hG h).mono (fun M' z => (wp_some _ _).mpr z)
theorem qx_rng (bs : List Int32) (i : Nat) : -1 ≤ qx bs i ∧ qx bs i ≤ 18 := by
  unfold qx
  split
  · have := List.idxOf_le_length (a := qw bs i) (l := kwL)
    have e : kwL.length = 18 := rfl
    omega
  · omega
theorem qs_rng {bs : List Int32} (h : ∀ z, z ∈ bs → -128 ≤ z.toInt ∧ z.toInt < 128) (i : Nat) : -128 ≤ qs bs i ∧ qs bs i < 128 := by
  unfold qs
  split
  · exact bt_rng h _
  · omega
theorem c_takeWord (hG : GK Γ) (h : CS M bs s) {w : Nat} (hw : w < 100) : wp (f_X4_takeWord Γ M 3 (J w)) (fun M' => CX M M' ∧ CS M' bs (tWord bs w s)) := by
  obtain ⟨h1, h2, h3, h4, h5, h6⟩ := id h
  have hr : wp (f_X4_takeWord_28 Γ M 3) (fun M' => CX M M' ∧ CS M' bs (rfu bs s)) := by
    rw [f_X4_takeWord_28, wp_ck_t (GKk3 hG), wp_bind]
    exact (c_refuse hG h).mono (fun M' z => (wp_some _ _).mpr z)
  have hx := qx_rng bs s.1
  unfold tWord
  rw [f_X4_takeWord, wp_ck_t (GKk3 hG), h4]
  by_cases c : s.2.1 = 0
  · rw [wp_ite_t (by rw [c]; rfl), h3, wp_ck_t (GKk4 hG), h1.2.2.2.2.1]
    by_cases c2 : qx bs s.1 = w
    · rw [wp_ite_t (by rw [c2]), if_pos ⟨c, c2⟩, wp_bind]
      exact (c_adv hG h).mono (fun M' z => (wp_some _ _).mpr z)
    · rw [wp_ite_f (by rw [J_eq (by omega) (by omega) (by omega) (by omega)]; exact c2), if_neg (fun q => c2 q.2)]; exact hr
  · rw [wp_ite_f (by rw [show (0 : Int32) = J 0 from rfl, J_eq (by omega) (by omega) (by omega) (by omega)]; omega), if_neg (fun q => c q.1)]; exact hr
theorem c_takeSign (hG : GK Γ) (h : CS M bs s) {w : Nat} (hw : w < 100) : wp (f_X4_takeSign Γ M 3 (J w)) (fun M' => CX M M' ∧ CS M' bs (tSign bs w s)) := by
  obtain ⟨h1, h2, h3, h4, h5, h6⟩ := id h
  have hr : wp (f_X4_takeSign_28 Γ M 3) (fun M' => CX M M' ∧ CS M' bs (rfu bs s)) := by
    rw [f_X4_takeSign_28, wp_ck_t (GKk3 hG), wp_bind]
    exact (c_refuse hG h).mono (fun M' z => (wp_some _ _).mpr z)
  have hx := qs_rng h1.1.2.2.2.2.2.2 s.1
  unfold tSign
  rw [f_X4_takeSign, wp_ck_t (GKk3 hG), h4]
  by_cases c : s.2.1 = 0
  · rw [wp_ite_t (by rw [c]; rfl), h3, wp_ck_t (GKk4 hG), h1.2.2.2.2.2.1]
    by_cases c2 : qs bs s.1 = w
    · rw [wp_ite_t (by rw [c2]), if_pos ⟨c, c2⟩, wp_bind]
      exact (c_adv hG h).mono (fun M' z => (wp_some _ _).mpr z)
    · rw [wp_ite_f (by rw [J_eq (by omega) (by omega) (by omega) (by omega)]; exact c2), if_neg (fun q => c2 q.2)]; exact hr
  · rw [wp_ite_f (by rw [show (0 : Int32) = J 0 from rfl, J_eq (by omega) (by omega) (by omega) (by omega)]; omega), if_neg (fun q => c q.1)]; exact hr
end
