section
variable {Γ : rhG} {T : Tn} {S t cp tln Ln tb : Nat} {L0 : Ar}
def W6 (S t : Nat) : List Nat := W5 S ++ [S + 1, S + 2, S + 3, S + 4, S + 5, S + 6, S + 7, S + 20, t + 9, t + 10]
theorem GW.fr {M M' : rhM} {N : List Wn} {dn : Nat → Prop} {lst : Nat → List Nat} {wt : Nat → Nat} {n : Nat} (h : GW Γ M S t cp tln Ln tb T L0 N dn lst wt n) (hSI : SI Γ M' S t cp tln Ln T) {W : List Nat} (hF : Fr W M M') (hd : ∀ r, r ∈ W5 S → r ∉ W) : GW Γ M' S t cp tln Ln tb T L0 N dn lst wt n := by
  obtain ⟨-, h2, h3, h4⟩ := h
  have e : ∀ k, 8 ≤ k → k ≤ 18 → M'.1 (S + k) = M.1 (S + k) ∧ M'.2.1 (S + k) = M.2.1 (S + k) := fun k a b => hF.2 _ (hd _ (by unfold W5; simp only [List.mem_cons, List.not_mem_nil, or_false]; omega))
  refine ⟨hSI, ?_, ?_, ?_⟩
  · unfold FW
    rw [(e 8 (by omega) (by omega)).1, show S + 8 + 1 = S + 9 by omega, (e 9 (by omega) (by omega)).2, show S + 8 + 5 = S + 13 by omega, (e 13 (by omega) (by omega)).1]
    exact h2
  · unfold FNw at *
    rw [show S + 8 + 2 = S + 10 by omega, show S + 8 + 3 = S + 11 by omega, show S + 8 + 4 = S + 12 by omega, (e 10 (by omega) (by omega)).1, (e 11 (by omega) (by omega)).1, (e 12 (by omega) (by omega)).1]
    exact h3
  · unfold Wt WL at *
    rw [(e 14 (by omega) (by omega)).1, show S + 14 + 1 = S + 15 by omega, show S + 14 + 3 = S + 17 by omega, show S + 14 + 4 = S + 18 by omega, show S + 14 + 2 = S + 16 by omega, (e 15 (by omega) (by omega)).1, (e 16 (by omega) (by omega)).1, (e 17 (by omega) (by omega)).1, (e 18 (by omega) (by omega)).1]
    exact h4
theorem c_weighOn (hw : TWf T) (hRH : 0 < tH T → 0 < tR T) (h6 : tH T ≤ 6) (d : t + 10 < S) (w0 : WA (tR T) (tH T) L0) (hb : isBits (ways (tR T) (tH T)) tb) (hcw : ways (tR T) (tH T) ≤ cp) {at_ W : Nat} {pq : Wn} (hpw : pq.2.1.1 = W) (hW36 : W ≤ 40000000) (Q : rhM → Prop) {M : rhM} {N : List Wn} {dn : Nat → Prop} {lst : Nat → List Nat} {wt : Nat → Nat} {n : Nat}
    (hG : GW Γ M S t cp tln Ln tb T L0 N dn lst wt n) (hNI : NI T L0 N dn) (hWd : Wd N dn W) (hat : N[at_]? = some pq) (hdn : dn at_) (hdl : ∀ j, dn j → j < N.length) (hcnt : ∃ D : List Nat, D.Nodup ∧ (∀ j, dn j ↔ j ∈ D) ∧ n + D.length = N.length)
    (hQ : ∀ M' N' lst' wt' n', Fr (W6 S t) M M' → GW Γ M' S t cp tln Ln tb T L0 N' dn lst' wt' n' → NI T L0 N' dn → Wd N' dn W → Later dn N N' → N.length ≤ N'.length → n' + N.length = n + N'.length → (∀ a, a ∈ pulls T pq.1 → ∃ (i : Nat) (y : Wn), N'[i]? = some y ∧ y.1 = mvA pq.1 a ∧ kle y.2.1 (candK T pq a)) → (∀ x, x ∈ lst' (W % 1024) ↔ x ∈ lst (W % 1024)) → Q M') :
    wp (f_X5_weighOn Γ M S (J at_)) Q := by
  have w1 := hw.1
  have w2 := hw.2.1
  have hG0 := hG
  obtain ⟨hSI, ⟨tab, hFW⟩, hFN, hWt⟩ := hG
  obtain ⟨hS, hT6, hts, hT, hP⟩ := hSI
  have s2 := hS.2.1
  have s5 := hS.2.2.2.2.1
  have sS := hS.2.2.2.2.2.1
  have sF := hS.2.2.2.2.2.2.1
  have s4 := hS.2.2.2.1
  have hcp := hS.2.2.2.2.2.2.2.2.2.2.2.2.1
  have hvA : ∀ A, A ∈ arw N → WA (tR T) (tH T) A := fun A hA => by
    obtain ⟨q, hq, rfl⟩ := List.mem_map.mp hA
    obtain ⟨j, hj, e⟩ := List.getElem_of_mem hq
    exact hNI.2.1 j q (by rw [List.getElem?_eq_getElem hj, e])
  have hal : (arw N).length = N.length := by simp [arw]
  have hNl : N.length ≤ ways (tR T) (tH T) := by rw [← hal]; exact few w2 hRH hvA hNI.2.2.1
  have hil := (List.getElem?_eq_some_iff.mp hat).1
  have wL := hNI.2.1 _ _ hat
  have hword : M.2.1 (S + 9) at_ = jl (wn pq.1) := by
    refine hFW.2.2.1 at_ _ ?_
    rw [wds_at w1 w2 hvA wL]
    show (N.map fun q => q.1)[at_]? = _
    rw [List.getElem?_map, hat]; rfl
  have k9 := sF.2.1
  rw [show S + 8 + 1 = S + 9 by omega] at k9
  rw [f_X5_weighOn, wp_ck_t hS.1, s2, wp_ck_t sF.1, sF.2.2.2.2.2.2.1, show S + 8 + 1 = S + 9 by omega, wp_ck_t k9.1, k9.2, J_toInt (by omega) (by omega), wp_ck_t (by omega), s5, wp_ck_t sS.1, J_clamp (by omega) (by omega), Int.toNat_natCast, hword, hT6, wp_bind]
  refine (c_look (t := t) sS w1 w2 wL hRH hts.1 (by simp; omega) hT.1 hT.2.1).mono (fun M1 h1 => ?_)
  obtain ⟨F1, A1, -⟩ := h1
  have sS1 := sS.fr F1.1
  have hT1 : TC M1 t T := hT.fr F1 (fun r hr => by simp only [List.mem_cons, List.not_mem_nil, or_false] at hr ⊢; omega)
  have hP1 : PA Γ M1 (S + 19) (S + 20) Ln t T := hP.fr F1 (by simp)
  have hI1 : IV Γ M1 (S + 1) t (S + 19) (S + 20) Ln T pq.1 := ⟨sS1, A1, hts.fr F1.1, hT1, hP1⟩
  rw [F1.1, s5, wp_ck_t sS.1, hT6, s4, wp_bind]
  refine (c_listPulls hw wL (by unfold dis; omega) hI1).mono (fun M2 h2 => ?_)
  obtain ⟨F2, I2, L2⟩ := h2
  have F12 : Fr [S + 1, S + 2, S + 3, S + 4, S + 5, S + 6, S + 7, S + 20, t + 9, t + 10] M M2 := (F1.sub (by simp)).trans (F2.sub (by simp))
  have hF12 : Fr (W6 S t) M M2 := F12.sub (by unfold W6; simp)
  have hSI2 : SI Γ M2 S t cp tln Ln T := ⟨hS.fr F12.1, by rw [F12.1]; exact hT6, I2.2.2.1, I2.2.2.2.1, I2.2.2.2.2⟩
  have hG2 := hG0.fr hSI2 F12 (by unfold W5; simp; omega)
  have h32 := pulls_len w1 w2 wL
  have hW56 : ∀ r, r ∈ W5 S → r ∈ W6 S t := fun r hr => List.mem_append_left _ hr
  exact c_wo37 hw hRH h6 d w0 hb hcw rfl hpw hW36 Q (pulls T pq.1) rhFU M2 0 N dn lst wt n rfl (Nat.zero_le _) h32 hG2 L2 hNI hWd hat hdn hdl hcnt (by have := FU_big2; omega)
    (fun M' N' lst' wt' n' b1 => hQ M' N' lst' wt' n' (hF12.trans (b1.sub hW56)))
/-! the best of the lightest that wait -/
theorem BM_any {M : rhM} {md : Md} {l l' : List Ar} (h : BM M S T md l) (hm : md.1 ≠ 2) : BM M S T md l' := by
  obtain ⟨a1, a2, a3, a4, a5, a6⟩ := h
  rw [if_neg hm] at a5 a6
  exact ⟨a1, a2, a3, a4, by rw [if_neg hm]; exact a5, by rw [if_neg hm]; exact a6⟩
theorem kle_eqw {N : List Wn} {x y : Wn} (e : x.2.1.1 = y.2.1.1) : klt x.2.1 y.2.1 ↔ ltc x.2.1.2 y.2.1.2 := by
  unfold klt ltc
  constructor
  · rintro (h | h)
    · omega
    · exact h.2
  · intro h; exact Or.inr ⟨e, h⟩
/-- what the walk over a list of one weight has kept -/
def Best (N : List Wn) (p : Ar → Prop) (seen : List Nat) (met : Int) : Prop := (met = -1 ∧ ∀ j, j ∈ seen → ∀ q : Wn, N[j]? = some q → ¬ p q.1) ∨ (∃ (m : Nat) (x : Wn), met = m ∧ m ∈ seen ∧ N[m]? = some x ∧ p x.1 ∧ ∀ j, j ∈ seen → ∀ q : Wn, N[j]? = some q → p q.1 → kle x.2.1 q.2.1)
end
