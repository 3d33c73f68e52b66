section
variable {Γ : rhG} {T : Tn} {S t cp tln Ln tb : Nat} {L0 : Ar} {md : Md}
theorem c_behind {M : rhM} {w n : Nat} {lst : Nat → List Nat} {wt : Nat → Nat} (hS : WSh Γ M w cp) (hcp : cp ≤ 60480) (hW : WL M w cp lst wt n) {k : Nat} (hk : k < 1024) {A B : List Nat} {x : Nat} (hl : lst k = A ++ x :: B) : f_X10_behind Γ M w (J x) = some (J (hdI B)) := by
  obtain ⟨k0, -, -, ⟨k3, n3⟩, -, -, -, r2, -⟩ := hS
  obtain ⟨-, h2, -, h4⟩ := hW.2 k hk
  rw [hl] at h2 h4
  have hx := (h4 x (by simp)).1
  rw [f_X10_behind, rhck_t k0, r2, rhck_t k3, n3, J_toInt (by omega) (by omega), rhck_t (by omega), J_clamp (by omega) (by omega), Int.toNat_natCast, (Ch_mid h2).2]
theorem c_best14 (dd : t + 10 < S) (hw : TWf T) (hRH : 0 < tH T → 0 < tR T) (hmd : md.1 ≠ 2) {N : List Wn} {dn : Nat → Prop} {lst : Nat → List Nat} {wt : Nat → Nat} {n W : Nat} (hNc : N.length ≤ cp) (hNI : NI T L0 N dn) (hWd : Wd N dn W) (hW : W ≤ 40000000) (Q : Int32 × rhM → Prop) : ∀ (rest : List Nat) (k : Nat) (M : rhM) (seen : List Nat) (met : Int), GW Γ M S t cp tln Ln tb T L0 N dn lst wt n → M.1 S 0 = J cp → (∀ l, BM M S T md l) → lst (W % 1024) = seen ++ rest → Best N (pM md) seen met → seen.length + rest.length ≤ cp → rest.length < k →
    (∀ M' met', Fr [S] M M' → (∀ j, j ≠ 1 → j ≠ 11 → M'.1 S j = M.1 S j) → M'.2.1 S = M.2.1 S → (∀ l, BM M' S T md l) → Best N (pM md) (lst (W % 1024)) met' → Q (J met', M')) →
    wp (f_X5_bestMet_14 Γ k M S (J met) (J (hdI rest)) (J seen.length)) Q := by
  have w1 := hw.1
  have w2 := hw.2.1
  have hk0 := Nat.mod_lt W (show 0 < 1024 by decide)
  intro rest
  induction rest with
  | nil =>
    intro k M seen met hG h0 hBM hl hB hc hk hQ
    obtain ⟨k, rfl⟩ : ∃ m, k = m + 1 := ⟨k - 1, by omega⟩
    have hS := hG.1.1
    rw [List.append_nil] at hl
    have fin : Q (J met, M) := hQ M met (Fr.refl _ _) (fun _ _ _ => rfl) rfl hBM (by rw [hl]; exact hB)
    have hcp := hS.2.2.2.2.2.2.2.2.2.2.2.2.1
    rw [f_X5_bestMet_14, wp_ck_t hS.1, h0]
    by_cases c : seen.length < cp
    · rw [wp_ite_t (by rw [J_lt (by omega) (by omega) (by omega) (by omega)]; omega), wp_ite_t (by rfl), wp_some]; exact fin
    · rw [wp_ite_f (by rw [J_lt (by omega) (by omega) (by omega) (by omega)]; omega), wp_some]; exact fin
  | cons x rest ih =>
    intro k M seen met hG h0 hBM hl hB hc hk hQ
    rw [List.length_cons] at hc hk
    obtain ⟨k, rfl⟩ : ∃ m, k = m + 1 := ⟨k - 1, by omega⟩
    have hSI := hG.1
    have hS := hSI.1
    have s2 := hS.2.1
    have s3 := hS.2.2.1
    have sF := hS.2.2.2.2.2.2.1
    have sW := hS.2.2.2.2.2.2.2.1
    have hcp := hS.2.2.2.2.2.2.2.2.2.2.2.2.1
    obtain ⟨tab, hFW⟩ := hG.2.1
    have hxm : x ∈ lst (W % 1024) := by rw [hl]; simp
    have hxN := hG.2.2.2.2.2 _ hk0 x hxm
    have hqe := List.getElem?_eq_getElem hxN.1
    generalize hqq : N[x] = q at *
    have hqw : q.2.1.1 = W := by
      have h1 := (hWd x q hqe).2 hxN.2
      have h2 := ((hG.2.2.2.1.2 _ hk0).2.2.2 x hxm).2.1
      have h3 := (hG.2.2.2.2.1 x q hqe).2.1
      omega
    have wq := hNI.2.1 x q hqe
    have hvA : ∀ A, A ∈ arw N → WA (tR T) (tH T) A := fun A hA => by
      obtain ⟨q, hq, rfl⟩ := List.mem_map.mp hA
      obtain ⟨j, hj, e⟩ := List.getElem_of_mem hq
      exact hNI.2.1 j q (by rw [List.getElem?_eq_getElem hj, e])
    have hword : M.2.1 (S + 9) x = jl (wn q.1) := by
      refine hFW.2.2.1 x _ ?_
      rw [wds_at w1 w2 hvA wq]
      show (N.map fun q => q.1)[x]? = _
      rw [List.getElem?_map, hqe]; rfl
    -- the list of nothing that isMet's row wants
    have hrep : ∀ L, L ∈ List.replicate x q.1 → WA (tR T) (tH T) L := fun L hL => by rw [(List.mem_replicate.mp hL).2]; exact wq
    have hrl : (List.replicate x q.1).length = x := List.length_replicate
    have hmet := fun Qq => c_isMet (Γ := Γ) hS.1 s2 sF hcp hSI.2.1 hSI.2.2.1 hSI.2.2.2.1 hw hRH hrep wq (by rw [hrl]; omega) (by rw [hrl]; exact hword) (hBM _) Qq
    rw [hrl] at hmet
    rw [f_X5_bestMet_14, wp_ck_t hS.1, h0, wp_ite_t (by rw [J_lt (by omega) (by omega) (by omega) (by omega)]; omega)]
    rw [show hdI (x :: rest) = (x : Int) from rfl]
    rw [wp_ite_f (by rw [show (-1 : Int32) = J (-1) from rfl, J_eq (by omega) (by omega) (by omega) (by omega)]; omega), wp_bind]
    refine hmet _ (fun M1 c1 c2 c3 c4 => ?_)
    have hSI1 := hSI.fr1 dd (c1.sub (by unfold W1; simp))
    have hG1 : GW Γ M1 S t cp tln Ln tb T L0 N dn lst wt n := hG.fr hSI1 c1 (by unfold W5; simp)
    have hBM1 : ∀ l, BM M1 S T md l := fun l => BM_any c4 hmd
    have h01 : M1.1 S 0 = J cp := by rw [c2 0 (by decide) (by decide)]; exact h0
    have hl' : lst (W % 1024) = (seen ++ [x]) ++ rest := by rw [hl]; simp
    have step : ∀ met' : Int, Best N (pM md) (seen ++ [x]) met' → wp (f_X5_bestMet_52 (f_X5_bestMet_14 Γ k) Γ M1 S (J met') (J x) (J seen.length)) Q := by
      intro met' hB'
      have hbe := c_behind (Γ := Γ) (w := S + 14) hSI1.1.2.2.2.2.2.2.2.1 hcp hG1.2.2.2.1 hk0 hl
      rw [f_X5_bestMet_52, wp_ck_t hS.1, c1.1, s3, wp_ck_t sW.1, hbe, wp_bind, wp_some, show (1 : Int32) = J 1 from rfl, J_add, show ((seen.length : Int) + 1) = (((seen ++ [x]).length : Nat) : Int) by simp]
      exact ih k M1 (seen ++ [x]) met' hG1 h01 hBM1 hl' hB' (by rw [List.length_append, List.length_singleton]; omega) (by omega) (fun M' m' a1 a2 a3 a5 a4 => hQ M' m' (c1.trans a1) (fun j u v => by rw [a2 j u v, c2 j u v]) (by rw [a3, c3]) a5 a4)
    by_cases hp : pM md q.1
    · rw [bi_t hp, wp_ite_f (show ¬ (1 : Int32) = 0 by decide)]
      rcases hB with ⟨rfl, hno⟩ | ⟨m, z, rfl, hm, hz, hpz, hmin⟩
      · rw [wp_ite_t (show J (-1) = -1 from rfl), f_X5_bestMet_50]
        refine step x (Or.inr ⟨x, q, rfl, by simp, hqe, hp, fun j hj r hr hpr => ?_⟩)
        rcases List.mem_append.mp hj with hj | hj
        · exact absurd hpr (hno j hj r hr)
        · rw [List.mem_singleton] at hj
          rw [hj, hqe] at hr; cases hr; exact kle_refl _
      · have hzl := (List.getElem?_eq_some_iff.mp hz).1
        have hmm : m ∈ lst (W % 1024) := by rw [hl]; exact List.mem_append_left _ hm
        have hmN := hG.2.2.2.2.2 _ hk0 m hmm
        have hzw : z.2.1.1 = W := by
          have h1 := (hWd m z hz).2 hmN.2
          have h2 := ((hG.2.2.2.1.2 _ hk0).2.2.2 m hmm).2.1
          have h3 := (hG.2.2.2.2.1 m z hz).2.1
          omega
        have hlead := c_leads (Γ := Γ) (N := N) hS.1 hSI1.1.2.1 hSI1.1.2.2.2.2.2.2.1 hcp hNc hNI.pwt hG1.2.2.1 hqe hz
        rw [wp_ite_f (by rw [show (-1 : Int32) = J (-1) from rfl, J_eq (by omega) (by omega) (by omega) (by omega)]; omega), hlead, wp_bind, wp_some]
        have hk := kle_eqw (N := N) (x := q) (y := z) (by omega)
        by_cases cb : ltc q.2.1.2 z.2.1.2
        · rw [bi_t cb, wp_ite_f (by decide), f_X5_bestMet_50]
          have hlt := hk.mpr cb
          refine step x (Or.inr ⟨x, q, rfl, by simp, hqe, hp, fun j hj r hr hpr => ?_⟩)
          rcases List.mem_append.mp hj with hj | hj
          · exact kle_tr (fun h => klt_irr _ (klt_tr hlt h)) (hmin j hj r hr hpr)
          · rw [List.mem_singleton] at hj
            rw [hj, hqe] at hr; cases hr; exact kle_refl _
        · rw [bi_f cb, wp_ite_t rfl]
          have hnl : kle z.2.1 q.2.1 := fun h => cb (hk.mp h)
          refine step m (Or.inr ⟨m, z, rfl, by simp [hm], hz, hpz, fun j hj r hr hpr => ?_⟩)
          rcases List.mem_append.mp hj with hj | hj
          · exact hmin j hj r hr hpr
          · rw [List.mem_singleton] at hj
            rw [hj, hqe] at hr; cases hr; exact hnl
    · rw [bi_f hp, wp_ite_t rfl]
      refine step met ?_
      rcases hB with ⟨rfl, hno⟩ | ⟨m, z, rfl, hm, hz, hpz, hmin⟩
      · refine Or.inl ⟨rfl, fun j hj r hr => ?_⟩
        rcases List.mem_append.mp hj with hj | hj
        · exact hno j hj r hr
        · rw [List.mem_singleton] at hj
          rw [hj, hqe] at hr; cases hr; exact hp
      · refine Or.inr ⟨m, z, rfl, by simp [hm], hz, hpz, fun j hj r hr hpr => ?_⟩
        rcases List.mem_append.mp hj with hj | hj
        · exact hmin j hj r hr hpr
        · rw [List.mem_singleton] at hj
          rw [hj, hqe] at hr; cases hr; exact absurd hpr hp
end
