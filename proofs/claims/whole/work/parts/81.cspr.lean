/-! SPREADING BY THE CLASS -/
theorem sr_ne {M : rhM} {r j v a k : Nat} (h : ¬ (a = r ∧ k = j)) : (rhsr M r j v).2.2 a k = M.2.2 a k := if_neg h
theorem sr_eq (M : rhM) (r j v : Nat) : (rhsr M r j v).2.2 r j = v := if_pos ⟨rfl, rfl⟩
def rs2 (M : rhM) (S t : Nat) : rhM := rhsr (rhsr M S 6 t) (S + 19) 1 t
theorem rs2_ne {M : rhM} {S t a k : Nat} (h : ¬ (a = S ∧ k = 6)) (h2 : ¬ (a = S + 19 ∧ k = 1)) : (rs2 M S t).2.2 a k = M.2.2 a k := by rw [rs2, sr_ne h2, sr_ne h]
theorem SSh.rs2 {Γ : rhG} {M : rhM} {S t cp tln Ln : Nat} (h : SSh Γ M S cp tln Ln) : SSh Γ (rs2 M S t) S cp tln Ln := by
  unfold SSh SS FSh WSh at *
  simp (disch := omega) only [rs2_ne]
  exact h
theorem TSh.rs2 {Γ : rhG} {M : rhM} {S t : Nat} (h : TSh Γ M t) (d : t + 10 < S) : TSh Γ (rs2 M S t) t := by
  unfold TSh at *
  simp (disch := omega) only [rs2_ne]
  exact h
theorem Fr.rs2 {W : List Nat} {M M' : rhM} (h : Fr W M M') (S t : Nat) : Fr W (rs2 M S t) (rs2 M' S t) := (h.rsr S 6 t).rsr (S + 19) 1 t
section
variable {Γ : rhG} {T : Tn} {S t cp tln Ln tb : Nat} {md : Md} {L0 : Ar}
theorem c_pbegin {M : rhM} {p kn : Nat} (hp : Γ.2.2.1 p = 3) (h0 : M.2.2 p 0 = kn) (hk : Γ.2.2.1 kn = 14) (hl : Γ.2.2.2 kn = Ln) (hLn : Ln < 900000000) (ht : Γ.2.2.1 t = 10) (hT : TC M t T) (hw : TWf T) :
    wp (f_X2_begin Γ M p t) (fun M' => Fr [kn] (rhsr M p 1 t) M' ∧ PA Γ M' p kn Ln t T) := by
  have w1 := hw.1
  have w2 := hw.2.1
  have hR := hT.1
  have hH := hT.2.1
  have e1 := J_shl (tR T * tR T) (k := 2 * tH T) (by omega)
  have hb : tR T * tR T * 2 ^ (2 * tH T) ≤ 25 * 2 ^ 16 := Nat.mul_le_mul (Nat.mul_le_mul w1 w1) (pow_le (by omega))
  have e2 : tR T * tR T * 2 ^ tH T * 2 ^ tH T = tR T * tR T * 2 ^ (2 * tH T) := by rw [Nat.mul_assoc, ← Nat.pow_add]; congr 2; omega
  have hpl : f_X2_placesFor Γ (rhsr M p 1 t) (J (tH T)) (J (tR T)) = some (J (tR T * tR T * 2 ^ (2 * tH T) : Nat)) := by
    rw [f_X2_placesFor, J_mul, show (2 : Int32) = J 2 from rfl, J_mul, show (31 : Int32) = J 31 from rfl, show ((tR T : Int) * tR T) = ((tR T * tR T : Nat) : Int) by simp, show ((2 : Int) * tH T) = ((2 * tH T : Nat) : Int) by simp]
    rw [show (31 : Int32) = J 31 from rfl] at e1
    rw [e1]
  generalize tR T * tR T * 2 ^ (2 * tH T) = pl at *
  have e3 : (if J Ln < J pl then J Ln else J pl) = J ((min Ln pl : Nat) : Int) := by
    by_cases c : Ln < pl
    · rw [if_pos (by rw [J_lt (by omega) (by omega) (by omega) (by omega)]; omega)]; congr 1; omega
    · rw [if_neg (by rw [J_lt (by omega) (by omega) (by omega) (by omega)]; omega)]; congr 1; omega
  rw [f_X2_begin, wp_ck_t hp]
  dsimp only
  rw [wp_ck_t ht, hH, hR, hpl, wp_bind, wp_some, sr_ne (by omega), h0, wp_ck_t hk, hl, show Int32.ofNat Ln = J Ln from Int32.ofInt_eq_ofNat.symm, e3, wp_bind, show (0 : Int32) = J ((0 : Nat) : Int) from rfl]
  refine (c_fillB (Γ := Γ) (v := J ((0 : Nat) : Int)) (a := 0) (b := min Ln pl) hk hl hLn (by omega) (by omega)).mono (fun M' h => ?_)
  rw [wp_some]
  refine ⟨h.1, hp, hk, hl, by omega, ?_, ?_, fun q hq hq2 => Or.inl ?_⟩
  · rw [h.1.1, sr_ne (by omega)]; exact h0
  · rw [h.1.1, sr_eq]
  · rw [h.2, if_pos (by omega)]; rfl
theorem c_sbegin (hw : TWf T) (hRH : 0 < tH T → 0 < tR T) (d : t + 10 < S) (hcw : ways (tR T) (tH T) ≤ cp) (hw1 : 1 ≤ ways (tR T) (tH T)) {M : rhM} (hS : SSh Γ M S cp tln Ln) (hts : TSh Γ M t) (hT : TC M t T) (wL : WA (tR T) (tH T) L0) (Qp : Int32 × rhM → Prop)
    (hQ : ∀ M' tb, isBits (ways (tR T) (tH T)) tb → Fr (W2 S t) (rs2 M S t) M' → SI Γ M' S t cp tln Ln T → FAq M' (S + 8) tb [(L0, -1, 0, 0)] → M'.1 S 11 = J (-1) → M'.1 S 1 = J 0 → (∀ j, j ≠ 1 → j ≠ 11 → M'.1 S j = M.1 S j) → M'.2.1 S = M.2.1 S → Qp (J ((0 : Nat) : Int), M')) :
    wp (f_X5_begin Γ M S t (jl (wn L0))) Qp := by
  have w1 := hw.1
  have w2 := hw.2.1
  have s2 := hS.2.1
  have s4 := hS.2.2.2.1
  have sF := hS.2.2.2.2.2.2.1
  have hcp := hS.2.2.2.2.2.2.2.2.2.2.2.2.1
  have k19 := hS.2.2.2.2.2.2.2.2.1
  have r19 := hS.2.2.2.2.2.2.2.2.2.1
  have k20 := hS.2.2.2.2.2.2.2.2.2.2.1
  have n20 := hS.2.2.2.2.2.2.2.2.2.2.2.1
  have hLn := hS.2.2.2.2.2.2.2.2.2.2.2.2.2.2
  obtain ⟨tc, htc, htln⟩ := hS.2.2.2.2.2.2.2.2.2.2.2.2.2.1
  -- the first memory
  have hF1 : Fr [S] (rhsr M S 6 t) (rhsi (rhsi (rhsr M S 6 t) S 11 (-1)) S 1 0) := ((Fr.refl _ _).si (by simp) _ _).si (by simp) _ _
  have j1 : ∀ j, j ≠ 1 → j ≠ 11 → (rhsi (rhsi (rhsr M S 6 t) S 11 (-1)) S 1 0).1 S j = M.1 S j := fun j a b => by
    rw [si_1, si_1, if_neg (by omega), if_neg (by omega)]; rfl
  have j11 : (rhsi (rhsi (rhsr M S 6 t) S 11 (-1)) S 1 0).1 S 11 = J (-1) := by rw [si_1, si_1, if_neg (by omega), if_pos ⟨rfl, rfl⟩]; rfl
  have j01 : (rhsi (rhsi (rhsr M S 6 t) S 11 (-1)) S 1 0).1 S 1 = J 0 := by rw [si_1, if_pos ⟨rfl, rfl⟩]; rfl
  have jl1 : (rhsi (rhsi (rhsr M S 6 t) S 11 (-1)) S 1 0).2.1 S = M.2.1 S := rfl
  have hT1 : TC (rhsi (rhsi (rhsr M S 6 t) S 11 (-1)) S 1 0) t T := by
    have : TC (rhsr M S 6 t) t T := hT
    exact this.fr hF1 (fun r hr => by simp only [List.mem_cons, List.not_mem_nil, or_false] at hr ⊢; omega)
  have r1 : ∀ a k, ¬ (a = S ∧ k = 6) → (rhsi (rhsi (rhsr M S 6 t) S 11 (-1)) S 1 0).2.2 a k = M.2.2 a k := fun a k h => sr_ne h
  have r6 : (rhsi (rhsi (rhsr M S 6 t) S 11 (-1)) S 1 0).2.2 S 6 = t := sr_eq M S 6 t
  rw [f_X5_begin, wp_ck_t hS.1]
  dsimp only
  generalize hM1 : rhsi (rhsi (rhsr M S 6 t) S 11 (-1)) S 1 0 = M1 at *
  have e6 : (rhsr M S 6 t).2.2 S 6 = t := sr_eq M S 6 t
  have e2 : (rhsr M S 6 t).2.2 S 2 = S + 8 := by rw [sr_ne (by omega)]; exact s2
  rw [e6, wp_ck_t hts.1, c_states hts.1 hT1.1 hT1.2.1 w2, wp_bind, wp_some, e2, wp_ck_t sF.1, wp_bind]
  have sF1 : FSh Γ M1 (S + 8) cp tln := by
    obtain ⟨a1, a2, a3, a4, a5, a6, b1, b2, b3, b4, b5⟩ := sF
    exact ⟨a1, a2, a3, a4, a5, a6, by rw [r1 _ _ (by omega)]; exact b1, by rw [r1 _ _ (by omega)]; exact b2, by rw [r1 _ _ (by omega)]; exact b3, by rw [r1 _ _ (by omega)]; exact b4, by rw [r1 _ _ (by omega)]; exact b5⟩
  refine (c_fbegin sF1 hcp hcw htc htln).mono (fun M2 h2 => ?_)
  obtain ⟨F2, tb, hb, hFW⟩ := h2
  have hT2 : TC M2 t T := hT1.fr F2 (fun r hr => by simp only [List.mem_cons, List.not_mem_nil, or_false] at hr ⊢; omega)
  rw [F2.1, r1 _ _ (by omega), s4, wp_ck_t k19, r6, wp_bind]
  refine (c_pbegin (Γ := Γ) (M := M2) (Ln := Ln) k19 (by rw [F2.1, r1 _ _ (by omega)]; exact r19) k20 n20 hLn hts.1 hT2 hw).mono (fun M3 h3 => ?_)
  obtain ⟨F3, hP3⟩ := h3
  have hle := bits_mono hb htc hcw
  have hpl : 2 ^ tb ≤ tln := by rw [htln]; exact pow_le hle
  have hp20 : tln ≤ 2 ^ 20 := by rw [htln]; exact pow_le (by have := htc.2.1; omega)
  have F3i : ∀ r, r ≠ S + 20 → M3.1 r = M2.1 r ∧ M3.2.1 r = M2.2.1 r := fun r hr => F3.2 r (by simpa using hr)
  have e2' : M3.2.2 S 2 = S + 8 := by rw [F3.1, sr_ne (by omega), F2.1, r1 _ _ (by omega)]; exact s2
  have sF3 : FSh Γ M3 (S + 8) cp tln := by
    obtain ⟨a1, a2, a3, a4, a5, a6, b1, b2, b3, b4, b5⟩ := sF1
    exact ⟨a1, a2, a3, a4, a5, a6, by rw [F3.1, sr_ne (by omega), F2.1]; exact b1, by rw [F3.1, sr_ne (by omega), F2.1]; exact b2, by rw [F3.1, sr_ne (by omega), F2.1]; exact b3, by rw [F3.1, sr_ne (by omega), F2.1]; exact b4, by rw [F3.1, sr_ne (by omega), F2.1]; exact b5⟩
  have hFW3 : FW M3 (S + 8) tb [] (fun _ => 0) := by
    obtain ⟨a1, a2, a3, a4, a5⟩ := hFW
    exact ⟨by rw [(F3i _ (by omega)).1]; exact a1, by rw [(F3i _ (by omega)).1]; exact a2, by rw [(F3i _ (by omega)).2]; exact a3, by rw [(F3i _ (by omega)).1]; exact a4, a5⟩
  rw [e2', wp_ck_t sF.1, wp_bind]
  refine (c_number sF3 hFW3 hb.1 (by have := hb.2.1; omega) hpl hp20 (by simp) (by omega) (by simp [wds]) (jl (wn L0))).mono (fun r4 h4 => ?_)
  obtain ⟨F4, j4, hr⟩ := h4
  rcases hr with ⟨k, hk, -⟩ | ⟨-, hr1, hSR⟩
  · simp [wds] at hk
  have e2'' : r4.2.2.2 S 2 = S + 8 := by rw [F4.1]; exact e2'
  have hFW4 : FW r4.2 (S + 8) tb [] (fun _ => 0) := by
    obtain ⟨a1, a2, a3, a4, a5⟩ := hFW3
    exact ⟨by rw [j4 0 (by decide)]; exact a1, by rw [j4 6 (by decide)]; exact a2, by rw [F4.l (by simp)]; exact a3, by rw [F4.i (by simp)]; exact a4, a5⟩
  rw [e2'', wp_ck_t sF.1, wp_bind, show (-1 : Int32) = J (-1) from rfl, show (0 : Int32) = J ((0 : Nat) : Int) from rfl]
  have hbz : 1 < 2 ^ tb := by have := hb.2.2.1; omega
  refine (c_add (sF3.fr F4.1) hFW4 hpl hp20 (by omega) hSR (par := -1) (cd := 0) (dv := 0) (by show 0 < cp; omega) (by show 0 + 1 < 2 ^ tb; exact hbz) (Or.inl ⟨rfl, rfl⟩)).mono (fun r5 h5 => ?_)
  obtain ⟨g1, F5, ⟨tab', hFW5⟩, g2, g3, g4⟩ := h5
  rw [wp_some, g1]
  -- frames
  have hFa : Fr (W2 S t) (rhsr M S 6 t) M2 := (hF1.sub (by unfold W2; simp)).trans (F2.sub (by unfold W2; simp))
  have hFb : Fr (W2 S t) (rs2 M S t) M3 := (hFa.rsr (S + 19) 1 t).trans (F3.sub (by unfold W2; simp))
  have hFc : Fr (W2 S t) (rs2 M S t) r5.2 := (hFb.trans (F4.sub (by unfold W2; simp))).trans (F5.sub (by unfold W2; simp))
  have eS : r5.2.1 S = M1.1 S := by rw [F5.i (by first | (simp; done) | (simp; omega)), F4.i (by first | (simp; done) | (simp; omega)), (F3i _ (by omega)).1, F2.i (by first | (simp; done) | (simp; omega))]
  have eSl : r5.2.2.1 S = M1.2.1 S := by rw [F5.l (by first | (simp; done) | (simp; omega)), F4.l (by first | (simp; done) | (simp; omega)), (F3i _ (by omega)).2, F2.l (by first | (simp; done) | (simp; omega))]
  refine hQ r5.2 tb hb hFc ⟨(hS.rs2 (t := t)).fr hFc.1, ?_, (hts.rs2 d).fr hFc.1, ?_, ?_⟩ ⟨⟨tab', hFW5⟩, fun j q hq => ?_⟩ ?_ ?_ ?_ ?_
  · rw [hFc.1, rs2, sr_ne (by omega), sr_eq]
  · have : TC (rs2 M S t) t T := hT
    exact this.fr hFc (fun r hr => (town_W d r hr).1)
  · exact (hP3.fr F4 (by first | (simp; done) | (simp; omega))).fr F5 (by first | (simp; done) | (simp; omega))
  · have hj0 : j = 0 := by have := (List.getElem?_eq_some_iff.mp hq).1; simpa using this
    subst hj0
    cases hq
    rw [g2, g3, g4]
    exact ⟨if_pos rfl, if_pos rfl, if_pos rfl⟩
  · rw [eS]; exact j11
  · rw [eS]; exact j01
  · intro j a b; rw [eS]; exact j1 j a b
  · rw [eSl]; exact jl1
end
