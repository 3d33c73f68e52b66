/-! SPREADING BY THE CLASS -/
theorem sr_ne {M : rhM} {r j v a k : Nat} (h : ¬ (a = r ∧ k = j)) : (rhsr M r j v).2.2 a k = M.2.2 a k := if_neg h
theorem sr_eq (M : rhM) (r j v : Nat) : (rhsr M r j v).2.2 r j = v := if_pos ⟨rfl, rfl⟩
def rs2 (M : rhM) (S t : Nat) : rhM := rhsr (rhsr M S 5 t) (S + 11) 1 t
theorem rs2_ne {M : rhM} {S t a k : Nat} (h : ¬ (a = S ∧ k = 5)) (h2 : ¬ (a = S + 11 ∧ k = 1)) : (rs2 M S t).2.2 a k = M.2.2 a k := by rw [rs2, sr_ne h2, sr_ne h]
theorem SSh.rs2 {Γ : rhG} {M : rhM} {S F t cp Ln : Nat} (h : SSh Γ M S F cp Ln) : SSh Γ (rs2 M S t) S F cp Ln := by
  have dF := h.2.2.2.2.2.2.1
  unfold SSh NSh SS SX FSh at *
  simp (disch := omega) only [rs2_ne]
  exact h
theorem TSh.rs2 {Γ : rhG} {M : rhM} {S t : Nat} (h : TSh Γ M t) (d : t + 10 < S) : TSh Γ (rs2 M S t) t := by
  unfold TSh at *
  simp (disch := omega) only [rs2_ne]
  exact h
theorem Fr.rs2 {W : List Nat} {M M' : rhM} (h : Fr W M M') (S t : Nat) : Fr W (rs2 M S t) (rs2 M' S t) := (h.rsr S 5 t).rsr (S + 11) 1 t
def NB (M : rhM) (n : Nat) : Prop := ∃ R H, R ≤ 5 ∧ H ≤ 6 ∧ NT M n R H
section
variable {Γ : rhG} {T : Tn} {S F t cp Ln : Nat} {md : Md} {L0 : Ar}
theorem c_pbegin {M : rhM} {p kn : Nat} (hp : Γ.2.2.1 p = 3) (h0 : M.2.2 p 0 = kn) (hk : Γ.2.2.1 kn = 15) (hl : Γ.2.2.2 kn = Ln) (hLn : Ln < 900000000) (ht : Γ.2.2.1 t = 10) (hT : TC M t T) (hw : TWf T) :
    wp (f_X2_begin Γ M p t) (fun M' => Fr [kn] (rhsr M p 1 t) M' ∧ PA Γ M' p kn Ln t T) := by
  have w1 := hw.1
  have w2 := hw.2.1
  have hR := hT.1
  have hH := hT.2.1
  have e1 := J_shl (tR T * tR T) (k := 2 * tH T) (by omega)
  have hb : tR T * tR T * 2 ^ (2 * tH T) ≤ 25 * 2 ^ 16 := Nat.mul_le_mul (Nat.mul_le_mul w1 w1) (pow_le (by omega))
  have e2 : tR T * tR T * 2 ^ tH T * 2 ^ tH T = tR T * tR T * 2 ^ (2 * tH T) := by rw [Nat.mul_assoc, ← Nat.pow_add]; congr 2; omega
  have hpl : f_X2_placesFor Γ (rhsr M p 1 t) (J (tH T)) (J (tR T)) = some (J (tR T * tR T * 2 ^ (2 * tH T) : Nat)) := by
    rw [f_X2_placesFor, J_mul, show (2 : Int32) = J 2 from rfl, J_mul, show (31 : Int32) = J 31 from rfl, show ((tR T : Int) * tR T) = ((tR T * tR T : Nat) : Int) by simp, show ((2 : Int) * tH T) = ((2 * tH T : Nat) : Int) by simp]
    rw [show (31 : Int32) = J 31 from rfl] at e1
    rw [e1]
  have e2' : tR T * tR T * 2 ^ tH T * 2 ^ tH T = tR T * tR T * 2 ^ (2 * tH T) := e2
  generalize hpp : tR T * tR T * 2 ^ (2 * tH T) = pl at *
  have e16 := J_sar4 (k := pl) (by omega)
  have e3 : (if J Ln < J ((pl / 16 : Nat) : Int) + 1 then J Ln else J ((pl / 16 : Nat) : Int) + 1) = J ((min Ln (pl / 16 + 1) : Nat) : Int) := by
    rw [show (1 : Int32) = J 1 from rfl, J_add]
    by_cases c : Ln < pl / 16 + 1
    · rw [if_pos (by rw [J_lt (by omega) (by omega) (by omega) (by omega)]; omega)]; congr 1; omega
    · rw [if_neg (by rw [J_lt (by omega) (by omega) (by omega) (by omega)]; omega)]; congr 1; omega
  rw [f_X2_begin, wp_ck_t hp]
  dsimp only
  rw [wp_ck_t ht, hH, hR, hpl, wp_bind, wp_some, sr_ne (by omega), h0, wp_ck_t hk, hl, show Int32.ofNat Ln = J Ln from Int32.ofInt_eq_ofNat.symm, show (4 : Int32) = J 4 from rfl, show (31 : Int32) = J 31 from rfl, e16, e3, wp_bind, show (0 : Int32) = J ((0 : Nat) : Int) from rfl]
  refine (c_fillI (Γ := Γ) (v := J ((0 : Nat) : Int)) (a := 0) (b := min Ln (pl / 16 + 1)) hk hl hLn (by omega) (by omega)).mono (fun M' h => ?_)
  rw [wp_some]
  refine ⟨h.1, hp, hk, hl, by omega, ?_, ?_, fun q hq hq2 => ⟨0, by decide, ?_, fun j hj hj2 => Or.inl (sl_zero j)⟩⟩
  · rw [h.1.1, sr_ne (by omega)]; exact h0
  · rw [h.1.1, sr_eq]
  · rw [h.2, if_pos (by rw [e2'] at hq2; omega)]
set_option maxHeartbeats 4000000 in
theorem c_sbegin (hw : TWf T) (h4 : tR T ≤ 4) (h6 : tH T ≤ 6) (hRH : 0 < tH T → 0 < tR T) (d : t + 10 < S) (hcw : ways (tR T) (tH T) ≤ cp) (h60 : ways (tR T) (tH T) ≤ 60480) {M : rhM} (hS : SSh Γ M S F cp Ln) (hF0 : M.1 F 0 = J cp) (hNB : NB M (S + 7)) (hts : TSh Γ M t) (hT : TC M t T) (wL : WA (tR T) (tH T) L0) (Qp : Int32 × rhM → Prop)
    (hQ : ∀ M', Fr (W2 S F t) (rs2 M S t) M' → SI Γ M' S F t cp Ln T → FAq M' F cp (tR T) (tH T) [(L0, -1, 0, 0)] → M'.1 S 10 = J (-1) → M'.1 S 0 = J 0 → (∀ j, j ≠ 0 → j ≠ 10 → M'.1 S j = M.1 S j) → M'.2.1 S = M.2.1 S → Qp (J (nm (tR T) (tH T) L0 : Nat), M')) :
    wp (f_X5_begin Γ M S t (jl (wn L0))) Qp := by
  have w1 := hw.1
  have w2 := hw.2.1
  have hS0 := hS
  obtain ⟨kS, ⟨f1, f2, f3, f4⟩, hNs, sS, sF, ⟨k11, r11, k12, n12⟩, dF, hS18, hcp, hLn⟩ := hS
  obtain ⟨R0, H0, hR0, hH0, hNT0⟩ := hNB
  have hlt := nm_lt wL w2 hRH
  -- the first memory
  have hF1 : Fr [S] (rhsr M S 5 t) (rhsi (rhsi (rhsr M S 5 t) S 10 (-1)) S 0 0) := ((Fr.refl _ _).si (by simp) _ _).si (by simp) _ _
  have j1 : ∀ j, j ≠ 0 → j ≠ 10 → (rhsi (rhsi (rhsr M S 5 t) S 10 (-1)) S 0 0).1 S j = M.1 S j := fun j a b => by
    rw [si_1, si_1, if_neg (by omega), if_neg (by omega)]; rfl
  have j11 : (rhsi (rhsi (rhsr M S 5 t) S 10 (-1)) S 0 0).1 S 10 = J (-1) := by rw [si_1, si_1, if_neg (by omega), if_pos ⟨rfl, rfl⟩]; rfl
  have j01 : (rhsi (rhsi (rhsr M S 5 t) S 10 (-1)) S 0 0).1 S 0 = J 0 := by rw [si_1, if_pos ⟨rfl, rfl⟩]; rfl
  have jl1 : (rhsi (rhsi (rhsr M S 5 t) S 10 (-1)) S 0 0).2.1 S = M.2.1 S := rfl
  have hT1 : TC (rhsi (rhsi (rhsr M S 5 t) S 10 (-1)) S 0 0) t T := by
    have : TC (rhsr M S 5 t) t T := hT
    exact this.fr hF1 (fun r hr => by simp only [List.mem_cons, List.not_mem_nil, or_false] at hr ⊢; omega)
  have hNT1 : NT (rhsi (rhsi (rhsr M S 5 t) S 10 (-1)) S 0 0) (S + 7) R0 H0 := by
    have : NT (rhsr M S 5 t) (S + 7) R0 H0 := hNT0
    exact this.fr hF1 (by first | (simp; done) | (simp; omega)) (by first | (simp; done) | (simp; omega)) (by first | (simp; done) | (simp; omega)) (by first | (simp; done) | (simp; omega))
  have f0 : (rhsi (rhsi (rhsr M S 5 t) S 10 (-1)) S 0 0).1 F 0 = J cp := by
    rw [si_1, si_1, if_neg (by omega), if_neg (by omega)]; exact hF0
  have r1 : ∀ a k, ¬ (a = S ∧ k = 5) → (rhsi (rhsi (rhsr M S 5 t) S 10 (-1)) S 0 0).2.2 a k = M.2.2 a k := fun a k h => sr_ne h
  have r6 : (rhsi (rhsi (rhsr M S 5 t) S 10 (-1)) S 0 0).2.2 S 5 = t := sr_eq M S 5 t
  rw [f_X5_begin, wp_ck_t kS]
  dsimp only
  generalize hM1 : rhsi (rhsi (rhsr M S 5 t) S 10 (-1)) S 0 0 = M1 at *
  have e6 : (rhsr M S 5 t).2.2 S 5 = t := sr_eq M S 5 t
  have e2 : (rhsr M S 5 t).2.2 S 2 = S + 7 := by rw [sr_ne (by omega)]; exact f2
  have hNs1 : NSh Γ M1 (S + 7) := by
    obtain ⟨a1, a2, a3, a4, a5, a6, a7⟩ := hNs
    exact ⟨a1, a2, a3, a4, by rw [r1 _ _ (by omega)]; exact a5, by rw [r1 _ _ (by omega)]; exact a6, by rw [r1 _ _ (by omega)]; exact a7⟩
  rw [e6, e2, wp_ck_t hNs.1, wp_bind]
  refine (c_nbegin (n := S + 7) (t := t) hNs1 hNT1 hR0 hH0 w1 h6 hts.1 (by simp; omega) hT1.1 hT1.2.1).mono (fun M2 h2 => ?_)
  obtain ⟨F2, hNT2⟩ := h2
  have hT2 : TC M2 t T := hT1.fr F2 (fun r hr => by simp only [List.mem_cons, List.not_mem_nil, or_false] at hr ⊢; omega)
  rw [F2.1, r1 _ _ (by omega), f3, wp_ck_t k11, r6, wp_bind]
  refine (c_pbegin (Γ := Γ) (M := M2) (Ln := Ln) k11 (by rw [F2.1, r1 _ _ (by omega)]; exact r11) k12 n12 hLn hts.1 hT2 hw).mono (fun M3 h3 => ?_)
  obtain ⟨F3, hP3⟩ := h3
  have F3i : ∀ r, r ≠ S + 12 → M3.1 r = M2.1 r ∧ M3.2.1 r = M2.2.1 r := fun r hr => F3.2 r (by simpa using hr)
  have r3 : ∀ a k, ¬ (a = S ∧ k = 5) → ¬ (a = S + 11 ∧ k = 1) → M3.2.2 a k = M.2.2 a k := fun a k h h' => by rw [F3.1, sr_ne h', F2.1, r1 a k h]
  have r35 : M3.2.2 S 5 = t := by rw [F3.1, sr_ne (by omega), F2.1, r6]
  have hT3 : TC M3 t T := by
    have : TC (rhsr M2 (S + 11) 1 t) t T := hT2
    exact this.fr F3 (fun r hr => by simp only [List.mem_cons, List.not_mem_nil, or_false] at hr ⊢; omega)
  have hNT3 : NT M3 (S + 7) (tR T) (tH T) := by
    have : NT (rhsr M2 (S + 11) 1 t) (S + 7) (tR T) (tH T) := hNT2
    exact this.fr F3 (by simp) (by simp) (by simp) (by simp)
  have sF3 : FSh Γ M3 F cp := by
    obtain ⟨a1, a2, a3, a4, a5, a6, b1, b2, b3, b4, b5⟩ := sF
    exact ⟨a1, a2, a3, a4, a5, a6, by rw [r3 _ _ (by omega) (by omega)]; exact b1, by rw [r3 _ _ (by omega) (by omega)]; exact b2, by rw [r3 _ _ (by omega) (by omega)]; exact b3, by rw [r3 _ _ (by omega) (by omega)]; exact b4, by rw [r3 _ _ (by omega) (by omega)]; exact b5⟩
  have f03 : M3.1 F 0 = J cp := by
    rw [(F3i F (by omega)).1, F2.i (by simp; omega)]; exact f0
  rw [r35, wp_ck_t hts.1, c_states hts.1 hT3.1 hT3.2.1 w2, wp_bind, wp_some, r3 S 1 (by omega) (by omega), f1, wp_ck_t sF.1, wp_bind]
  refine (c_fbegin sF3 hcp f03 hcw (fun _ => 0)).mono (fun M4 h4' => ?_)
  obtain ⟨F4, f04, hWL4, hN4⟩ := h4'
  have hNs4 : NSh Γ M4 (S + 7) := by
    obtain ⟨a1, a2, a3, a4, a5, a6, a7⟩ := hNs
    exact ⟨a1, a2, a3, a4, by rw [F4.1, r3 _ _ (by omega) (by omega)]; exact a5, by rw [F4.1, r3 _ _ (by omega) (by omega)]; exact a6, by rw [F4.1, r3 _ _ (by omega) (by omega)]; exact a7⟩
  have hNT4 : NT M4 (S + 7) (tR T) (tH T) := hNT3.fr F4 (by simp; omega) (by simp; omega) (by simp; omega) (by simp; omega)
  have sF4 := sF3.fr F4.1
  rw [F4.1, r3 S 2 (by omega) (by omega), f2, wp_ck_t hNs.1, c_stNum hNs4 hNT4 w1 h6 hRH wL, wp_bind, wp_some, r3 S 1 (by omega) (by omega), f1, wp_ck_t sF.1, c_isNew sF4 hcp f04 (show nm (tR T) (tH T) L0 < cp by omega), wp_bind, wp_some, if_pos (hN4 _ hlt), wp_ite_f (by decide), show (0 : Int32) = J ((0 : Nat) : Int) from rfl, wp_bind]
  refine (c_lead sF4 hcp (x := nm (tR T) (tH T) L0) (par := nm (tR T) (tH T) L0) (p := 0) (cd := 0) (by omega) (by omega) (by omega) (by omega) (Or.inl ⟨rfl, rfl⟩)).mono (fun M5 h5 => ?_)
  obtain ⟨F5, i5, l5⟩ := h5
  have hWL5 : WL M5 F cp (fun _ => []) (fun _ => 0) 0 := hWL4.fr F5 (by simp) (by simp) (by simp) (by simp) (by simp)
  rw [F5.1, F4.1, r3 S 1 (by omega) (by omega), f1, wp_ck_t sF.1, wp_bind]
  refine c_wput (sF4.fr F5.1) hcp hWL5 (by omega) (x := nm (tR T) (tH T) L0) (v := 0) (by omega) (by omega) (fun k hk h => by cases h) _ (fun M6 F6 z6 hWL6 o6 v6 => ?_)
  rw [wp_some]
  -- frames
  have F46 : Fr [F, F + 1, F + 2, F + 3, F + 4, F + 5] M3 M6 := ((F4.sub (by simp)).trans (F5.sub (by simp))).trans (F6.sub (by simp))
  have hFa : Fr (W2 S F t) (rhsr M S 5 t) M2 := (hF1.sub (by unfold W2; simp)).trans (F2.sub (by unfold W2; simp))
  have hFb : Fr (W2 S F t) (rs2 M S t) M3 := (hFa.rsr (S + 11) 1 t).trans (F3.sub (by unfold W2; simp))
  have hFc : Fr (W2 S F t) (rs2 M S t) M6 := hFb.trans (F46.sub (by unfold W2; simp))
  have eS : M6.1 S = M1.1 S := by rw [F46.i (by simp; omega), (F3i _ (by omega)).1, F2.i (by first | (simp; done) | (simp; omega))]
  have eSl : M6.2.1 S = M1.2.1 S := by rw [F46.l (by simp; omega), (F3i _ (by omega)).2, F2.l (by first | (simp; done) | (simp; omega))]
  refine hQ M6 hFc ⟨(hS0.rs2 (t := t)).fr hFc.1, ?_, (hts.rs2 d).fr hFc.1, ?_, ?_, ?_, ?_⟩ ⟨fun j q hq => ?_, fun k hk hno => ?_, ?_⟩ ?_ ?_ ?_ ?_
  · rw [hFc.1, rs2, sr_ne (by omega), sr_eq]
  · have : TC (rs2 M S t) t T := hT
    exact this.fr hFc (fun r hr => (town_W d dF r hr).1)
  · exact hP3.fr F46 (by simp; omega)
  · exact hNT3.fr F46 (by simp; omega) (by simp; omega) (by simp; omega) (by simp; omega)
  · rw [z6, i5]; exact f04
  · have hj0 : j = 0 := by have := (List.getElem?_eq_some_iff.mp hq).1; simpa using this
    subst hj0
    cases hq
    rw [F6.l (by simp), l5, if_pos rfl]; rfl
  · rw [F6.l (by simp), l5, if_neg (fun e => hno L0 (by simp [arrs]) e.symm)]
    exact hN4 k hk
  · have e := bl_snoc (tR T) (tH T) [] L0
    have e0 : bl (tR T) (tH T) [] = fun _ => [] := by funext k; unfold bl; split <;> rfl
    rw [e0] at e
    rw [uN_0, show (0 : Nat) % 1024 = 0 from rfl, e] at hWL6
    exact hWL6
  · rw [eS]; exact j11
  · rw [eS]; exact j01
  · intro j a b; rw [eS]; exact j1 j a b
  · rw [eSl]; exact jl1
end
