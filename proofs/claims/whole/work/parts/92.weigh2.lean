section
variable {Γ : rhG} {T : Tn} {S F t cp Ln : Nat} {L0 : Ar}
def W6 (S F t : Nat) : List Nat := [S + 12, S + 13, S + 14, S + 15, S + 16, S + 17, S + 18, S + 19, S + 20, S + 21, S + 22, F, F + 1, F + 2, F + 3, F + 4, F + 5, t + 9, t + 10]
theorem GW.fr {M M' : rhM} {N : List Wn} {dn : Nat → Prop} {lst : Nat → List Nat} {wt : Nat → Nat} {n : Nat} (h : GW Γ M S F t cp Ln T N dn lst wt n) (hSI : SI Γ M' S F t cp Ln T) {W : List Nat} (hF : Fr W M M') (h0 : F ∉ W) (h1 : F + 1 ∉ W) (h2 : F + 2 ∉ W) (h3 : F + 3 ∉ W) (h4 : F + 4 ∉ W) (h5 : F + 5 ∉ W) : GW Γ M' S F t cp Ln T N dn lst wt n := by
  obtain ⟨-, a, b, c, e, f⟩ := h
  refine ⟨hSI, ?_, ?_, c.fr hF h0 h1 h2 h4 h5, ?_, f⟩
  · unfold FNw; rw [hF.l h3]; exact a
  · unfold FX; rw [hF.l h3]; exact b
  · rw [hF.i h4]; exact e
theorem c_weighOn (hw : TWf T) (hRH : 0 < tH T → 0 < tR T) (hr4 : tR T ≤ 4) (h6 : tH T ≤ 6) (d : t + 10 < S) (w0 : WA (tR T) (tH T) L0) (h60 : ways (tR T) (tH T) ≤ 60480) (hcw : ways (tR T) (tH T) ≤ cp) {at_ W : Nat} {pq : Wn} (hpw : pq.2.1.1 = W) (hW36 : W ≤ 40000000) (Q : rhM → Prop) {M : rhM} {N : List Wn} {dn : Nat → Prop} {lst : Nat → List Nat} {wt : Nat → Nat} {n : Nat}
    (hG : GW Γ M S F t cp Ln T N dn lst wt n) (hNI : NI T L0 N dn) (hWd : Wd N dn W) (hat : N[at_]? = some pq) (hdn : dn at_) (hdl : ∀ j, dn j → j < N.length) (hcnt : ∃ D : List Nat, D.Nodup ∧ (∀ j, dn j ↔ j ∈ D) ∧ n + D.length = N.length)
    (hQ : ∀ M' N' lst' wt' n', Fr (W6 S F t) M M' → GW Γ M' S F t cp Ln T N' dn lst' wt' n' → NI T L0 N' dn → Wd N' dn W → Later dn N N' → N.length ≤ N'.length → n' + N.length = n + N'.length → (∀ a, a ∈ pulls T pq.1 → ∃ (i : Nat) (y : Wn), N'[i]? = some y ∧ y.1 = mvA pq.1 a ∧ kle y.2.1 (candK T pq a)) → (∀ x, x ∈ lst' (W % 1024) ↔ x ∈ lst (W % 1024)) → Q M') :
    wp (f_X5_weighOn Γ M S (J (nm (tR T) (tH T) pq.1 : Nat))) Q := by
  have w1 := hw.1
  have w2 := hw.2.1
  have hG0 := hG
  obtain ⟨hSI, hFN, hFX, hWt⟩ := hG
  obtain ⟨hS, hT5, hts, hT, hP, hNT, hF0⟩ := hSI
  have hS0 := hS
  have hxb := hS.xb
  obtain ⟨kS, ⟨f1, f2, f3, f4⟩, hNs, sS, sF, ⟨k11, r11, k12, n12⟩, dF, hS18, hcp, hLn⟩ := hS
  have wL := hNI.2.1 _ _ hat
  have h32 := pulls_len w1 w2 wL
  have hlt := nm_lt wL w2 hRH
  rw [f_X5_weighOn, wp_ck_t kS, f2, wp_ck_t hNs.1, c_stWord hNs hNT hr4 h6 hRH wL, wp_bind, wp_some, f4, wp_ck_t sS.1, hT5, wp_bind]
  refine (c_look (t := t) sS w1 w2 wL hRH hts.1 (by simp; omega) hT.1 hT.2.1).mono (fun M1 h1 => ?_)
  obtain ⟨F1, A1, -⟩ := h1
  have sS1 := sS.fr F1.1
  have hT1 : TC M1 t T := hT.fr F1 (fun r hr => by simp only [List.mem_cons, List.not_mem_nil, or_false] at hr ⊢; omega)
  have hP1 : PA Γ M1 (S + 11) (S + 12) Ln t T := hP.fr F1 (by simp)
  have hI1 : IV Γ M1 (S + 13) t (S + 11) (S + 12) Ln T pq.1 := ⟨sS1, A1, hts.fr F1.1, hT1, hP1⟩
  rw [F1.1, f4, wp_ck_t sS.1, f3, wp_bind]
  refine (c_listPulls hw wL (by unfold dis; rw [hxb]; omega) hI1).mono (fun M2 h2 => ?_)
  obtain ⟨F2, I2, L2⟩ := h2
  have F12 : Fr ([S + 13, S + 14, S + 15, S + 16] ++ WP (S + 13) t (S + 12)) M M2 := (F1.sub (by intro r hr; exact List.mem_append_left _ hr)).trans (F2.sub (by intro r hr; exact List.mem_append_right _ hr))
  have hNT2 : NT M2 (S + 7) (tR T) (tH T) := hNT.fr F12 (by unfold WP; rw [hxb]; simp; omega) (by unfold WP; rw [hxb]; simp; omega) (by unfold WP; rw [hxb]; simp; omega) (by unfold WP; rw [hxb]; simp; omega)
  have hok : ∀ a, a ∈ pulls T pq.1 → a.1 < tR T ∧ a.2.2 < tR T ∧ a.1 ≠ a.2.2 ∧ a.2.1 ≤ (rl pq.1 a.1).length := fun a ha => by
    have := (pulls_ok ha).1
    exact ⟨this.1, this.2.1, this.2.2.1, this.2.2.2.2⟩
  rw [F12.1, f2, wp_ck_t hNs.1, f4, wp_bind]
  refine (c_follow (n := S + 7) (s := S + 13) w1 h6 wL (hNs.fr F12.1) hNT2 I2.1 (by omega) h32 hok L2).mono (fun M3 h3 => ?_)
  obtain ⟨F3, N3⟩ := h3
  rw [hxb] at F3
  have F13 : Fr ([S + 22] ++ ([S + 13, S + 14, S + 15, S + 16] ++ WP (S + 13) t (S + 12))) M M3 := (F12.sub (by intro r hr; exact List.mem_append_right _ hr)).trans (F3.sub (by intro r hr; exact List.mem_append_left _ (by simpa using hr)))
  have F13W : Fr (W6 S F t) M M3 := F13.sub (by unfold W6 WP; rw [hxb]; simp)
  have hFo : ∀ k, k ≤ 5 → F + k ∉ [S + 22] ++ ([S + 13, S + 14, S + 15, S + 16] ++ WP (S + 13) t (S + 12)) := fun k hk => by unfold WP; rw [hxb]; simp; omega
  have hn3 : ∀ k, k ≤ 8 → S + 13 + k ∉ [S + 20 + 2] := fun k hk => by simp; omega
  have hSI3 : SI Γ M3 S F t cp Ln T := by
    refine ⟨hS0.fr F13.1, by rw [F13.1]; exact hT5, hts.fr F13.1, I2.2.2.2.1.fr F3 (fun r hr => by simp only [List.mem_cons, List.not_mem_nil, or_false] at hr ⊢; omega), I2.2.2.2.2.fr F3 (by first | (simp; done) | (simp; omega)), hNT2.fr F3 (by simp) (by simp) (by simp) (by simp), ?_⟩
    rw [show M3.1 F = M.1 F from F13.i (hFo 0 (by omega))]; exact hF0
  have hG3 := hG0.fr hSI3 F13 (hFo 0 (by omega)) (hFo 1 (by omega)) (hFo 2 (by omega)) (hFo 3 (by omega)) (hFo 4 (by omega)) (hFo 5 (by omega))
  have hL3 : LPu M3 (S + 13) pq.1 (pulls T pq.1) := L2.fr F3 (hn3 0 (by omega)) (hn3 5 (by omega)) (hn3 6 (by omega)) (by rw [hxb]; exact hn3 7 (by omega)) (by rw [hxb]; exact hn3 8 (by omega))
  have hwe := (hG3.2.2.2.2.1 at_ pq hat).1
  obtain ⟨k0, -, -, -, ⟨k4, n4⟩, -, -, -, -, r3, -⟩ := sF
  rw [F13.1, f1, wp_ck_t k0, f_X0_weightTo, wp_bind, wp_ck_t k0, F13.1, r3, wp_ck_t k4, n4, J_toInt (by omega) (by omega), wp_ck_t (by omega), J_clamp (by omega) (by omega), Int.toNat_natCast, hwe, wp_some, hpw, show (0 : Int32) = J ((0 : Nat) : Int) from rfl]
  exact c_wo53 hw hRH hr4 h6 d w0 h60 hcw rfl hpw hW36 Q (pulls T pq.1) rhFU M3 0 N dn lst wt n rfl (Nat.zero_le _) h32 hG3 hL3 N3 hNI hWd hat hdn hdl hcnt (by have := FU_big2; omega)
    (fun M' N' lst' wt' n' b1 => hQ M' N' lst' wt' n' (F13W.trans (b1.sub (by unfold W6; simp))))
end
