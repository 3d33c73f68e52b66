/-! the best of the lightest that wait -/
section
variable {Γ : rhG} {T : Tn} {S F t cp Ln : Nat} {L0 : Ar}
theorem BM_any {M : rhM} {md : Md} {l l' : List Ar} (h : BM M S T md l) (hm : md.1 ≠ 2) : BM M S T md l' := by
  obtain ⟨a1, a2, a3, a4, a5, a6⟩ := h
  rw [if_neg hm] at a5 a6
  exact ⟨a1, a2, a3, a4, by rw [if_neg hm]; exact a5, by rw [if_neg hm]; exact a6⟩
theorem kle_eqw {N : List Wn} {x y : Wn} (e : x.2.1.1 = y.2.1.1) : klt x.2.1 y.2.1 ↔ ltc x.2.1.2 y.2.1.2 := by
  unfold klt ltc
  constructor
  · rintro (h | h)
    · omega
    · exact h.2
  · intro h; exact Or.inr ⟨e, h⟩
/-- what the walk over a list of one weight has kept -/
def Best (R H : Nat) (N : List Wn) (p : Ar → Prop) (seen : List Nat) (met : Int) : Prop := (met = -1 ∧ ∀ (j : Nat) (q : Wn), N[j]? = some q → nm R H q.1 ∈ seen → ¬ p q.1) ∨ (∃ (m : Nat) (x : Wn), N[m]? = some x ∧ met = (nm R H x.1 : Nat) ∧ nm R H x.1 ∈ seen ∧ p x.1 ∧ ∀ (j : Nat) (q : Wn), N[j]? = some q → nm R H q.1 ∈ seen → p q.1 → kle x.2.1 q.2.1)
end
section
variable {Γ : rhG} {T : Tn} {S F t cp Ln : Nat} {L0 : Ar} {md : Md}
theorem c_best14 (dd : t + 10 < S) (hw : TWf T) (hRH : 0 < tH T → 0 < tR T) (hr4 : tR T ≤ 4) (h6 : tH T ≤ 6) (h60 : ways (tR T) (tH T) ≤ 60480) (hcw : ways (tR T) (tH T) ≤ cp) (hmd : md.1 ≠ 2) {N : List Wn} {dn : Nat → Prop} {lst : Nat → List Nat} {wt : Nat → Nat} {n W : Nat} (hNI : NI T L0 N dn) (hWd : Wd N dn W) (hW : W ≤ 40000000) (Q : Int32 × rhM → Prop) : ∀ (rest : List Nat) (k : Nat) (M : rhM) (seen : List Nat) (met : Int), GW Γ M S F t cp Ln T N dn lst wt n → (∀ l, BM M S T md l) → lst (W % 1024) = seen ++ rest → Best (tR T) (tH T) N (pM md) seen met → seen.length + rest.length ≤ cp → rest.length < k →
    (∀ M' met', Fr [S] M M' → (∀ j, j ≠ 0 → j ≠ 10 → M'.1 S j = M.1 S j) → M'.2.1 S = M.2.1 S → (∀ l, BM M' S T md l) → Best (tR T) (tH T) N (pM md) (lst (W % 1024)) met' → Q (J met', M')) →
    wp (f_X5_bestMet_14 Γ k M S (J met) (J (hdE rest 65535 : Nat)) (J seen.length)) Q := by
  have w1 := hw.1
  have w2 := hw.2.1
  have hk0 := Nat.mod_lt W (show 0 < 1024 by decide)
  intro rest
  induction rest with
  | nil =>
    intro k M seen met hG hBM hl hB hc hk hQ
    obtain ⟨k, rfl⟩ : ∃ m, k = m + 1 := ⟨k - 1, by omega⟩
    rw [List.append_nil] at hl
    have fin : Q (J met, M) := hQ M met (Fr.refl _ _) (fun _ _ _ => rfl) rfl hBM (by rw [hl]; exact hB)
    obtain ⟨kS, ⟨f1, -⟩, -, -, sF, -, -, -, hcp, -⟩ := hG.1.1
    have h0 := hG.1.2.2.2.2.2.2
    rw [f_X5_bestMet_14, wp_ck_t kS, f1, wp_ck_t sF.1, h0]
    by_cases c : seen.length < cp
    · rw [wp_ite_t (by rw [J_lt (by omega) (by omega) (by omega) (by omega)]; omega), wp_ite_t (show J ((hdE [] 65535 : Nat) : Int) = 65535 from rfl), wp_some]; exact fin
    · rw [wp_ite_f (by rw [J_lt (by omega) (by omega) (by omega) (by omega)]; omega), wp_some]; exact fin
  | cons x rest ih =>
    intro k M seen met hG hBM hl hB hc hk hQ
    rw [List.length_cons] at hc hk
    obtain ⟨k, rfl⟩ : ∃ m, k = m + 1 := ⟨k - 1, by omega⟩
    have hSI := hG.1
    obtain ⟨kS, ⟨f1, f2, f3, f4⟩, hNs, sS, sF, -, dF, hS18, hcp, hLn⟩ := hSI.1
    have h0 := hSI.2.2.2.2.2.2
    have hNT := hSI.2.2.2.2.2.1
    have hxm : x ∈ lst (W % 1024) := by rw [hl]; simp
    obtain ⟨jx, q, hqe, hqx, hxn⟩ := hG.2.2.2.2.2 _ hk0 x hxm
    have hqw : q.2.1.1 = W := by
      have h1 := (hWd jx q hqe).2 hxn
      have h2 := ((hG.2.2.2.1.2 _ hk0).2.2.2.2 x hxm).2.1
      have h3 := (hG.2.2.2.2.1 jx q hqe).2.1
      rw [hqx] at h3
      omega
    have wq := hNI.2.1 jx q hqe
    have lq := nm_lt wq w2 hRH
    subst hqx
    have hrep : ∀ L, L ∈ ([] : List Ar) → WA (tR T) (tH T) L := fun L hL => by cases hL
    have hmet := fun Qq => c_isMet (Γ := Γ) kS hSI.2.1 hSI.2.2.1 hSI.2.2.2.1 hw hRH h60 hrep wq (hBM []) Qq
    rw [f_X5_bestMet_14, wp_ck_t kS, f1, wp_ck_t sF.1, h0, wp_ite_t (by rw [J_lt (by omega) (by omega) (by omega) (by omega)]; omega)]
    rw [show hdE (nm (tR T) (tH T) q.1 :: rest) 65535 = nm (tR T) (tH T) q.1 from rfl]
    rw [wp_ite_f (by rw [show (65535 : Int32) = J 65535 from rfl, J_eq (by omega) (by omega) (by omega) (by omega)]; omega), f2, wp_ck_t hNs.1, c_stWord hNs hNT hr4 h6 hRH wq, wp_bind, wp_some, wp_bind]
    refine hmet _ (fun M1 c1 c2 c3 c4 => ?_)
    have hFS : F ≠ S := by omega
    have hSI1 := hSI.fr1 dd (c1.sub (by unfold W1; simp)) (by rw [c1.i (by simpa using hFS)])
    have hG1 : GW Γ M1 S F t cp Ln T N dn lst wt n := hG.fr hSI1 c1 (by first | (simp; done) | (simp; omega)) (by first | (simp; done) | (simp; omega)) (by first | (simp; done) | (simp; omega)) (by first | (simp; done) | (simp; omega)) (by first | (simp; done) | (simp; omega)) (by first | (simp; done) | (simp; omega))
    have hBM1 : ∀ l, BM M1 S T md l := fun l => BM_any c4 hmd
    have hl' : lst (W % 1024) = (seen ++ [nm (tR T) (tH T) q.1]) ++ rest := by rw [hl]; simp
    obtain ⟨kS1, ⟨f11, -⟩, -, -, sF1, -, -, -, -, -⟩ := hSI1.1
    have step : ∀ met' : Int, Best (tR T) (tH T) N (pM md) (seen ++ [nm (tR T) (tH T) q.1]) met' → wp (f_X5_bestMet_58 (f_X5_bestMet_14 Γ k) Γ M1 S (J met') (J (nm (tR T) (tH T) q.1 : Nat)) (J seen.length)) Q := by
      intro met' hB'
      have hbe := c_behind (Γ := Γ) sF1 hcp hG1.2.2.2.1 hk0 hl
      rw [f_X5_bestMet_58, wp_ck_t kS1, f11, wp_ck_t sF1.1, hbe, wp_bind, wp_some, show (1 : Int32) = J 1 from rfl, J_add, show ((seen.length : Int) + 1) = (((seen ++ [nm (tR T) (tH T) q.1]).length : Nat) : Int) by simp]
      exact ih k M1 (seen ++ [nm (tR T) (tH T) q.1]) met' hG1 hBM1 hl' hB' (by rw [List.length_append, List.length_singleton]; omega) (by omega) (fun M' m' a1 a2 a3 a5 a4 => hQ M' m' (c1.trans a1) (fun j u v => by rw [a2 j u v, c2 j u v]) (by rw [a3, c3]) a5 a4)
    have same : ∀ (j : Nat) (r : Wn), N[j]? = some r → nm (tR T) (tH T) r.1 = nm (tR T) (tH T) q.1 → r = q := fun j r hr e => by
      have e1 := nm_inj (hNI.2.1 j r hr) wq w2 hRH e
      have g1 : (N.map fun q => q.1)[j]? = some r.1 := by rw [List.getElem?_map, hr]; rfl
      have g2 : (N.map fun q => q.1)[jx]? = some r.1 := by rw [List.getElem?_map, hqe, e1]; rfl
      have := (List.getElem?_inj (List.getElem?_eq_some_iff.mp g1).1 hNI.2.2.1).mp (g1.trans g2.symm)
      rw [this, hqe] at hr; cases hr; rfl
    by_cases hp : pM md q.1
    · dsimp only
      rw [bi_t hp, wp_ite_f (show ¬ (1 : Int32) = 0 by decide), f11, wp_ck_t sF1.1, wp_bind]
      rcases hB with ⟨rfl, hno⟩ | ⟨m, z, hz, rfl, hm, hpz, hmin⟩
      · rw [f_X0_better, wp_ite_t (show J (-1) = -1 from rfl), wp_some]
        refine step (nm (tR T) (tH T) q.1 : Nat) (Or.inr ⟨jx, q, hqe, rfl, by simp, hp, fun j r hr hj hpr => ?_⟩)
        rcases List.mem_append.mp hj with hj | hj
        · exact absurd hpr (hno j r hr hj)
        · rw [List.mem_singleton] at hj
          rw [same j r hr hj]; exact kle_refl _
      · have lz := nm_lt (hNI.2.1 m z hz) w2 hRH
        have hmm : nm (tR T) (tH T) z.1 ∈ lst (W % 1024) := by rw [hl]; exact List.mem_append_left _ hm
        have hzw : z.2.1.1 = W := by
          obtain ⟨m', z', hz', e', hn'⟩ := hG.2.2.2.2.2 _ hk0 _ hmm
          have e1 := nm_inj (hNI.2.1 m' z' hz') (hNI.2.1 m z hz) w2 hRH e'
          have g1 : (N.map fun q => q.1)[m']? = some z'.1 := by rw [List.getElem?_map, hz']; rfl
          have g2 : (N.map fun q => q.1)[m]? = some z'.1 := by rw [List.getElem?_map, hz, e1]; rfl
          have ee := (List.getElem?_inj (List.getElem?_eq_some_iff.mp g1).1 hNI.2.2.1).mp (g1.trans g2.symm)
          rw [ee] at hn'
          have h1 := (hWd m z hz).2 hn'
          have h2 := ((hG.2.2.2.1.2 _ hk0).2.2.2.2 _ hmm).2.1
          have h3 := (hG.2.2.2.2.1 m z hz).2.1
          omega
        have hlead := c_isAhead (Γ := Γ) (M := M1) sF1 hcp w2 hRH hcw hNI.2.1 hNI.2.2.1 hNI.pwt hG1.2.1 (fun j q hq => (hNI.pidx hq).2) hqe hz
        rw [f_X0_better, wp_ite_f (by rw [show (-1 : Int32) = J (-1) from rfl, J_eq (by omega) (by omega) (by omega) (by omega)]; omega), wp_ck_t sF1.1, hlead, wp_bind, wp_some]
        have hk := kle_eqw (N := N) (x := q) (y := z) (by omega)
        by_cases cb : ltc q.2.1.2 z.2.1.2
        · rw [bi_t cb, wp_ite_f (show ¬ (1 : Int32) = 0 by decide), wp_some]
          have hlt := hk.mpr cb
          refine step (nm (tR T) (tH T) q.1 : Nat) (Or.inr ⟨jx, q, hqe, rfl, by simp, hp, fun j r hr hj hpr => ?_⟩)
          rcases List.mem_append.mp hj with hj | hj
          · exact kle_tr (fun h => klt_irr _ (klt_tr hlt h)) (hmin j r hr hj hpr)
          · rw [List.mem_singleton] at hj
            rw [same j r hr hj]; exact kle_refl _
        · rw [bi_f cb, wp_ite_t rfl, wp_some]
          have hnl : kle z.2.1 q.2.1 := fun h => cb (hk.mp h)
          refine step (nm (tR T) (tH T) z.1 : Nat) (Or.inr ⟨m, z, hz, rfl, by simp [hm], hpz, fun j r hr hj hpr => ?_⟩)
          rcases List.mem_append.mp hj with hj | hj
          · exact hmin j r hr hj hpr
          · rw [List.mem_singleton] at hj
            rw [same j r hr hj]; exact hnl
    · dsimp only
      rw [bi_f hp, wp_ite_t rfl]
      refine step met ?_
      rcases hB with ⟨rfl, hno⟩ | ⟨m, z, hz, rfl, hm, hpz, hmin⟩
      · refine Or.inl ⟨rfl, fun j r hr hj => ?_⟩
        rcases List.mem_append.mp hj with hj | hj
        · exact hno j r hr hj
        · rw [List.mem_singleton] at hj
          rw [same j r hr hj]; exact hp
      · refine Or.inr ⟨m, z, hz, rfl, by simp [hm], hpz, fun j r hr hj hpr => ?_⟩
        rcases List.mem_append.mp hj with hj | hj
        · exact hmin j r hr hj hpr
        · rw [List.mem_singleton] at hj
          rw [same j r hr hj] at hpr; exact absurd hpr hp
end
