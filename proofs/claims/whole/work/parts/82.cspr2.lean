/-! THE SEARCH THAT SPREADS, AND A ROW LAID DOWN -/
theorem QW.dep_par {T : Tn} {L0 : Ar} {Q : List Nd} (h : QW T L0 Q) {j : Nat} {q : Nd} (hq : Q[j]? = some q) {d : Nat} (hd : q.2.2.2 = d + 1) : ∃ i pq, i < j ∧ Q[i]? = some pq ∧ q.2.1 = ((i : Nat) : Int) ∧ pq.2.2.2 = d := by
  by_cases h0 : 0 < j
  · obtain ⟨i, pq, a, h1, h2, h3, -, -, -, h7⟩ := h.2.2.2 j q hq h0
    exact ⟨i, pq, h1, h2, h3, by omega⟩
  · rw [show j = 0 by omega, h.1] at hq
    cases hq; simp at hd
section
variable {Γ : rhG} {T : Tn} {S F t cp Ln : Nat} {md : Md} {L0 : Ar}
/-- the state behind the i-th -/
theorem hdE_map {R H : Nat} {A : List Ar} {i : Nat} (h : i + 1 ≤ A.length) : hdE ((A.map (nm R H)).drop (i + 1)) 65535 = if i + 1 < A.length then nm R H (A.getD (i + 1) []) else 65535 := by
  by_cases c : i + 1 < A.length
  · rw [if_pos c, List.drop_eq_getElem_cons (by rw [List.length_map]; exact c), hdE, List.getElem_map, List.getD_eq_getElem?_getD, List.getElem?_eq_getElem c]; rfl
  · rw [if_neg c, List.drop_eq_nil_of_le (by rw [List.length_map]; omega)]; rfl
theorem c_nextQ {M : rhM} {Q : List Nd} (hS : FSh Γ M F cp) (hcp : cp ≤ 60480) (hA : FAq M F cp (tR T) (tH T) Q) {i : Nat} {q : Nd} (hq : Q[i]? = some q) : f_X0_behind Γ M F (J (nm (tR T) (tH T) q.1 : Nat)) = some (J (hdE (((arrs Q).map (nm (tR T) (tH T))).drop (i + 1)) 65535 : Nat)) := by
  have hil := (List.getElem?_eq_some_iff.mp hq).1
  have hal : (arrs Q).length = Q.length := by simp [arrs]
  refine c_behind hS hcp hA.2.2 (k := 0) (by omega) (A := ((arrs Q).map (nm (tR T) (tH T))).take i) ?_
  have hg : ((arrs Q).map (nm (tR T) (tH T)))[i]? = some (nm (tR T) (tH T) q.1) := by rw [List.getElem?_map, arrs_get hq]; rfl
  have hl : i < ((arrs Q).map (nm (tR T) (tH T))).length := (List.getElem?_eq_some_iff.mp hg).1
  have he : ((arrs Q).map (nm (tR T) (tH T)))[i] = nm (tR T) (tH T) q.1 := (List.getElem?_eq_some_iff.mp hg).2
  unfold bl
  rw [if_pos rfl]
  conv => lhs; rw [← List.take_append_drop i ((arrs Q).map (nm (tR T) (tH T))), List.drop_eq_getElem_cons hl, he]
theorem c_spread30 (hw : TWf T) (h4 : tR T ≤ 4) (h6 : tH T ≤ 6) (hRH : 0 < tH T → 0 < tR T) (d : t + 10 < S) (hcw : ways (tR T) (tH T) ≤ cp) (h60 : ways (tR T) (tH T) ≤ 60480) (wL0 : WA (tR T) (tH T) L0) {z : Int} {most : Nat} (hz : z.toNat = most) (hz2 : z < 2147483648) (hz3 : -2147483648 ≤ z) (Qp : Int32 × rhM → Prop) : ∀ (dd n : Nat) (M : rhM) (i : Nat),
    i + dd = 60481 → i ≤ (bq T most L0 i).length → GI Γ M S F t cp Ln T L0 md (bq T most L0 i) → (∀ L, L ∈ arrs (bq T most L0 i) → ¬ pM md L) → dd + 1 < n →
    (∀ M', Fr (W2 S F t) M M' → GI Γ M' S F t cp Ln T L0 md (FQ T most L0) → fmt (pM md) (FQ T most L0) = none → (∀ j, j ≠ 0 → j ≠ 10 → M'.1 S j = M.1 S j) → Qp (M'.1 S 10, M')) →
    (∀ M' Q' j L', Fr (W2 S F t) M M' → Q' <+: FQ T most L0 → Q'.length = j + 1 → (arrs Q')[j]? = some L' → fmt (pM md) Q' = some j → GI Γ M' S F t cp Ln T L0 md Q' → (∀ j, j ≠ 0 → j ≠ 10 → M'.1 S j = M.1 S j) → Qp (J (nm (tR T) (tH T) L' : Nat), M')) →
    wp (f_X5_spread_30 Γ n M S (J z) (J (hdE (((arrs (bq T most L0 i)).map (nm (tR T) (tH T))).drop i) 65535 : Nat)) (J i)) Qp := by
  have w1 := hw.1
  have w2 := hw.2.1
  intro dd
  induction dd with
  | zero =>
    intro n M i hi hil hG hno hn hN hM
    have := (bq_QW (most := most) wL0 i).len w2 hRH
    omega
  | succ dd ih =>
    intro n M i hi hil hG hno hn hN hM
    obtain ⟨n, rfl⟩ : ∃ k, n = k + 1 := ⟨n - 1, by omega⟩
    have hQW := bq_QW (most := most) wL0 i
    have hQL := hQW.len w2 hRH
    have hSI := hG.1
    obtain ⟨kS, ⟨f1, f2, f3, f4⟩, hNs, sS, sF, -, dF, hS18, hcp, hLn⟩ := hSI.1
    have hF0 := hSI.2.2.2.2.2.2
    have hal : (arrs (bq T most L0 i)).length = (bq T most L0 i).length := by simp [arrs]
    have hml : ((arrs (bq T most L0 i)).map (nm (tR T) (tH T))).length = (bq T most L0 i).length := by rw [List.length_map, hal]
    rw [f_X5_spread_30, wp_ck_t kS, f1, wp_ck_t sF.1, hF0]
    by_cases c1 : i < (bq T most L0 i).length
    · have hqe := List.getElem?_eq_getElem c1
      have hdep : dep (bq T most L0 i) i = (bq T most L0 i)[i].2.2.2 := by unfold dep; rw [hqe]
      have hdb : dep (bq T most L0 i) i ≤ 60480 := by
        have := hQW.dep_le i c1; omega
      obtain ⟨q1, q2, q3, q4⟩ := hQW.rd (by omega) h4 h6 hqe
      have hlead := hG.2.2.1.1 i _ hqe
      have hqm : (bq T most L0 i)[i].1 ∈ arrs (bq T most L0 i) := List.mem_map.mpr ⟨_, List.getElem_mem c1, rfl⟩
      have hlt := nm_lt (hQW.2.1 _ hqm) w2 hRH
      have hlp := nm_lt q4 w2 hRH
      have hhd : hdE (((arrs (bq T most L0 i)).map (nm (tR T) (tH T))).drop i) 65535 = nm (tR T) (tH T) (bq T most L0 i)[i].1 := by
        rw [List.drop_eq_getElem_cons (by rw [hml]; exact c1), hdE, List.getElem_map]
        congr 1
        have := arrs_get hqe
        rw [List.getElem?_eq_getElem (by rw [hal]; exact c1)] at this
        exact Option.some.inj this
      have hpt := c_pullsTo (Γ := Γ) (M := M) sF hcp (show nm (tR T) (tH T) (bq T most L0 i)[i].1 < cp by omega) q1 (by omega) q2 hlead
      rw [hhd, wp_ite_t (by rw [J_lt (by omega) (by omega) (by omega) (by omega)]; omega), wp_ite_f (by rw [show (65535 : Int32) = J 65535 from rfl, J_eq (by omega) (by omega) (by omega) (by omega)]; omega), hpt, wp_bind, wp_some]
      rw [← hdep]
      by_cases c2 : dep (bq T most L0 i) i < most
      · have hbq : bq T most L0 (i + 1) = growA T (bq T most L0 i) i := by rw [bq, if_pos c2]
        rw [wp_ite_t (by rw [J_lt (by omega) (by omega) (by omega) (by omega)]; omega), wp_bind]
        refine c_goOn hw h4 h6 hRH d h60 hcw hG hqe hno _ (fun M' b1 b2 b3 b4 => ?_) (fun M' Q' j L' b1 b2 b3 b7 b4 b5 b6 => ?_)
        · rw [← hbq] at b2 b3
          obtain ⟨kS', ⟨f1', -⟩, -, -, sF', -, -, -, -, -⟩ := b2.1.1
          have hpre := bq_pre1 T most L0 i
          have hq' : (bq T most L0 (i + 1))[i]? = some (bq T most L0 i)[i] := pre_get hpre hqe
          have hbe := c_nextQ sF' hcp b2.2.2.1 hq'
          dsimp only
          rw [wp_ite_t rfl, f1', wp_ck_t sF'.1, hbe, wp_bind, wp_some, show (1 : Int32) = J 1 from rfl, J_add, J_suc]
          have hpl := hpre.length_le
          exact ih n M' (i + 1) (by omega) (by omega) b2 b3 (by omega)
            (fun M'' x1 x2 x3 x4 => hN M'' (b1.trans x1) x2 x3 (fun j a b => by rw [x4 j a b, b4 j a b]))
            (fun M'' Q' j L' x1 x2 x3 x7 x4 x5 x6 => hM M'' Q' j L' (b1.trans x1) x2 x3 x7 x4 x5 (fun j a b => by rw [x6 j a b, b4 j a b]))
        · have hL'm : L' ∈ arrs Q' := List.mem_of_getElem? b7
          have hL'lt := nm_lt (b5.2.1.2.1 _ hL'm) w2 hRH
          dsimp only
          rw [wp_ite_f (by rw [show (-1 : Int32) = J (-1) from rfl, J_eq (by omega) (by omega) (by omega) (by omega)]; omega), wp_some]
          exact hM M' Q' j L' b1 (by rw [← hbq] at b2; exact b2.trans (bq_FQ (by omega))) b3 b7 b4 b5 b6
      · have hFQ := FQ_eq (T := T) (most := most) (L0 := L0) (i := i) (Or.inr ⟨c1, by omega⟩) (by omega)
        rw [wp_ite_f (by rw [J_lt (by omega) (by omega) (by omega) (by omega)]; omega), wp_some]
        exact hN M (Fr.refl _ _) (by rw [hFQ]; exact hG) (by rw [hFQ]; exact fmt_none.mpr hno) (fun _ _ _ => rfl)
    · have hFQ := FQ_eq (T := T) (most := most) (L0 := L0) (i := i) (Or.inl (by omega)) (by omega)
      have hhd : hdE (((arrs (bq T most L0 i)).map (nm (tR T) (tH T))).drop i) 65535 = 65535 := by
        rw [List.drop_eq_nil_of_le (by rw [hml]; omega)]; rfl
      have fin : Qp (M.1 S 10, M) := hN M (Fr.refl _ _) (by rw [hFQ]; exact hG) (by rw [hFQ]; exact fmt_none.mpr hno) (fun _ _ _ => rfl)
      rw [hhd]
      by_cases c3 : i < cp
      · rw [wp_ite_t (by rw [J_lt (by omega) (by omega) (by omega) (by omega)]; omega), wp_ite_t (show J ((65535 : Nat) : Int) = 65535 from rfl), wp_some]; exact fin
      · rw [wp_ite_f (by rw [J_lt (by omega) (by omega) (by omega) (by omega)]; omega), wp_some]; exact fin
def BMp (M : rhM) (S : Nat) (T : Tn) (md : Md) : Prop := M.1 S 6 = J md.1 ∧ md.1 ≤ 2 ∧ (md.1 = 0 → M.2.1 S 7 = jl (dg md.2.1) ∧ M.2.1 S 8 = jl (2 ^ (4 * md.2.1.length) - 1) ∧ (∀ z, z ∈ md.2.1 → z < 8) ∧ md.2.1.length ≤ tH T) ∧ (md.1 = 1 → M.1 S 9 = J md.2.2 ∧ md.2.2 < tH T)
theorem c_spread (hw : TWf T) (h4 : tR T ≤ 4) (h6 : tH T ≤ 6) (hRH : 0 < tH T → 0 < tR T) (d : t + 10 < S) (hcw : ways (tR T) (tH T) ≤ cp) (h60 : ways (tR T) (tH T) ≤ 60480) {M : rhM} (hS : SSh Γ M S F cp Ln) (hF0 : M.1 F 0 = J cp) (hNB : NB M (S + 7)) (hts : TSh Γ M t) (hT : TC M t T) (wL0 : WA (tR T) (tH T) L0) (hmd : BMp M S T md) {z : Int} {most : Nat} (hz : z.toNat = most) (hz2 : z < 2147483648) (hz3 : -2147483648 ≤ z) (Qp : Int32 × rhM → Prop)
    (hN : ∀ M', Fr (W2 S F t) (rs2 M S t) M' → GI Γ M' S F t cp Ln T L0 md (FQ T most L0) → fmt (pM md) (FQ T most L0) = none → (∀ j, j ≠ 0 → j ≠ 10 → M'.1 S j = M.1 S j) → Qp (M'.1 S 10, M'))
    (hM : ∀ M' Q' j L', Fr (W2 S F t) (rs2 M S t) M' → Q' <+: FQ T most L0 → Q'.length = j + 1 → (arrs Q')[j]? = some L' → fmt (pM md) Q' = some j → GI Γ M' S F t cp Ln T L0 md Q' → (∀ j, j ≠ 0 → j ≠ 10 → M'.1 S j = M.1 S j) → Qp (J (nm (tR T) (tH T) L' : Nat), M')) :
    wp (f_X5_spread Γ M S t (jl (wn L0)) (J z)) Qp := by
  have w1 := hw.1
  have w2 := hw.2.1
  have dF := hS.2.2.2.2.2.2.1
  have hlt := nm_lt wL0 w2 hRH
  rw [f_X5_spread, wp_ck_t hS.1, wp_bind]
  refine c_sbegin hw h4 h6 hRH d hcw h60 hS hF0 hNB hts hT wL0 _ (fun M1 a1 a2 a3 a4 a5 a6 a7 => ?_)
  have hroot : QW T L0 [(L0, -1, 0, 0)] := bq_QW (most := most) wL0 0
  have hBM : BM M1 S T md [] := by
    obtain ⟨b1, b2, b3, b4⟩ := hmd
    refine ⟨by rw [a6 6 (by decide) (by decide)]; exact b1, b2, by rw [a7]; exact b3, by rw [a6 9 (by decide) (by decide)]; exact b4, ?_, ?_⟩
    · rw [a4]; split <;> rfl
    · rw [a5]; split <;> rfl
  dsimp only
  rw [wp_ite_f (by rw [show (-1 : Int32) = J (-1) from rfl, J_eq (by omega) (by omega) (by omega) (by omega)]; omega), wp_bind]
  have hmet := fun Qq => c_isMet (Γ := Γ) (l := []) a2.1.1 a2.2.1 a2.2.2.1 a2.2.2.2.1 hw hRH h60 (fun L hL => by cases hL) wL0 hBM Qq
  refine hmet _ (fun M2 c1 c2 c3 c4 => ?_)
  have cF1 : Fr (W1 S F) M1 M2 := c1.sub (by unfold W1; simp)
  have cF2 : Fr (W2 S F t) M1 M2 := c1.sub (by unfold W2; simp)
  have hGI : GI Γ M2 S F t cp Ln T L0 md [(L0, -1, 0, 0)] := ⟨a2.fr1 d cF1 (by rw [c1.i (by simp; omega)]), hroot, a3.fr c1 (by first | (simp; done) | (simp; omega)) (by first | (simp; done) | (simp; omega)) (by first | (simp; done) | (simp; omega)) (by first | (simp; done) | (simp; omega)) (by first | (simp; done) | (simp; omega)) (by first | (simp; done) | (simp; omega)), c4⟩
  have ej : ∀ j, j ≠ 0 → j ≠ 10 → M2.1 S j = M.1 S j := fun j x y => by rw [c2 j x y, a6 j x y]
  by_cases hp : pM md L0
  · dsimp only
    rw [bi_t hp, wp_ite_f (show ¬ (1 : Int32) = 0 by decide), wp_some]
    refine hM M2 [(L0, -1, 0, 0)] 0 L0 (a1.trans cF2) (bq_FQ (T := T) (most := most) (L0 := L0) (i := 0) (by omega)) rfl rfl ?_ hGI ej
    exact fmt_some.mpr ⟨⟨(L0, -1, 0, 0), rfl, hp⟩, fun i q hi => by omega⟩
  · dsimp only
    rw [bi_f hp, wp_ite_t rfl, show (0 : Int32) = J ((0 : Nat) : Int) from rfl]
    exact c_spread30 hw h4 h6 hRH d hcw h60 wL0 hz hz2 hz3 Qp 60481 rhFU M2 0 (by omega) (by omega) hGI (fun L hL => by
      simp only [bq, arrs, List.map_cons, List.map_nil, List.mem_singleton] at hL
      rw [hL]; exact hp) (by have := FU_big2; omega)
      (fun M' x1 x2 x3 x4 => hN M' (a1.trans (cF2.trans x1)) x2 x3 (fun j x y => by rw [x4 j x y, ej j x y]))
      (fun M' Q' j L' x1 x2 x3 x7 x4 x5 x6 => hM M' Q' j L' (a1.trans (cF2.trans x1)) x2 x3 x7 x4 x5 (fun j x y => by rw [x6 j x y, ej j x y]))
end
/-! a row laid down -/
section
variable {Γ : rhG} {T : Tn} {cp : Nat} {L0 : Ar} {Q : List Nd} {F p c : Nat}
theorem c_copy29 (hcp : cp ≤ 60480) (h4 : tR T ≤ 4) (h6 : tH T ≤ 6) (hRH : 0 < tH T → 0 < tR T) (hcw : ways (tR T) (tH T) ≤ cp) (hQW : QW T L0 Q) (hQc : Q.length ≤ cp) (hp : Γ.2.2.1 p = 4) (hc : Γ.2.2.1 c = 15) (hd : c ∉ [F, F + 1, F + 2, F + 3, F + 4, F + 5, p]) (hcl : Γ.2.2.2 c < 2147483648) : ∀ (d n : Nat) (M : rhM) (j : Nat) (q : Nd), FSh Γ M F cp → FN M F (tR T) (tH T) Q → M.2.2 p 0 = c → Q[j]? = some q → q.2.2.2 = d → d ≤ Γ.2.2.2 c → d ≤ 60480 → d < n →
    wp (f_X0_copyRow_29 n Γ M F (J (nm (tR T) (tH T) q.1 : Nat)) p (J ((d : Int) - 1))) (fun r => r.1 = Γ ∧ Fr [c] M r.2 ∧ Sg (r.2.1 c) 0 (pathQ Q d j) ∧ (pathQ Q d j).length = d ∧ ∀ i, d ≤ i → r.2.1 c i = M.1 c i) := by
  intro d
  induction d with
  | zero =>
    intro n M j q hF hN hpc hq hqd hdc hd6 hn
    obtain ⟨n, rfl⟩ : ∃ k, n = k + 1 := ⟨n - 1, by omega⟩
    rw [f_X0_copyRow_29]
    rw [wp_ite_t (by rw [show (0 : Int32) = J 0 from rfl, J_lt (by omega) (by omega) (by omega) (by omega)]; omega), wp_some]
    exact ⟨rfl, Fr.refl _ _, trivial, rfl, fun _ _ => rfl⟩
  | succ d ih =>
    intro n M j q hF hN hpc hq hqd hdc hd6 hn
    obtain ⟨n, rfl⟩ : ∃ k, n = k + 1 := ⟨n - 1, by omega⟩
    obtain ⟨i, pq, h1, h2, h3, h4'⟩ := hQW.dep_par hq hqd
    have hjl := (List.getElem?_eq_some_iff.mp hq).1
    have v1 := hN j q hq
    obtain ⟨q1, q2, q3, q4⟩ := hQW.rd (by omega) h4 h6 hq
    have hqm : q.1 ∈ arrs Q := List.mem_map.mpr ⟨q, List.mem_of_getElem? hq, rfl⟩
    have hlt := nm_lt (hQW.2.1 _ hqm) (show tH T ≤ 8 by omega) hRH
    have hlp := nm_lt q4 (show tH T ≤ 8 by omega) hRH
    have hpar : (arrs Q).getD q.2.1.toNat [] = pq.1 := by rw [h3, Int.toNat_natCast, arrs_gd h2]
    have e1 : ((d + 1 : Nat) : Int) - 1 = d := by omega
    have hcd := hd
    simp only [List.mem_cons, List.not_mem_nil, or_false, not_or] at hcd
    have hFr : Fr [c] M (rhsi M c d (J q.2.2.1)) := (Fr.refl _ _).si (by simp) _ _
    have hF2 : FSh Γ (rhsi M c d (J q.2.2.1)) F cp := hF.fr rfl
    have hco := c_codeOf (Γ := Γ) (M := M) hF hcp (show nm (tR T) (tH T) q.1 < cp by omega) q1 (by omega) q2 v1
    have v2 : (rhsi M c d (J q.2.2.1)).2.1 (F + 3) (nm (tR T) (tH T) q.1) = jl (ld q.2.2.2 (nm (tR T) (tH T) ((arrs Q).getD q.2.1.toNat [])) q.2.2.1) := v1
    have hpa := c_parentOf (Γ := Γ) (M := rhsi M c d (J q.2.2.1)) hF2 hcp (show nm (tR T) (tH T) q.1 < cp by omega) q1 (by omega) q2 v2
    rw [hpar] at hpa
    rw [f_X0_copyRow_29, e1]
    rw [wp_ite_f (by rw [show (0 : Int32) = J 0 from rfl, J_lt (by omega) (by omega) (by omega) (by omega)]; omega), wp_ck_t hp, wp_ck_t hF.1, hco, wp_bind, wp_some, hpc, wp_ck_t hc, J_toInt (by omega) (by omega), wp_ck_t (by omega), J_clamp (by omega) (by omega), Int.toNat_natCast]
    dsimp only
    rw [hpa, wp_bind, wp_some, show (-1 : Int32) = J (-1) from rfl, J_add, show (d : Int) + -1 = (d : Int) - 1 by omega]
    have vc : (rhsi M c d (J q.2.2.1)).1 c d = J q.2.2.1 := by rw [si_1, if_pos ⟨rfl, rfl⟩]
    have vo : ∀ k, k ≠ d → (rhsi M c d (J q.2.2.1)).1 c k = M.1 c k := fun k hk => by rw [si_1, if_neg (by omega)]
    have hN2 : FN (rhsi M c d (J q.2.2.1)) F (tR T) (tH T) Q := hN
    generalize rhsi M c d (J q.2.2.1) = M1 at *
    refine (ih n M1 i pq hF2 hN2 (by rw [hFr.1]; exact hpc) h2 h4' (by omega) (by omega) (by omega)).mono (fun r hr => ?_)
    obtain ⟨a1, a2, a3, a4, a5⟩ := hr
    have hpath : pathQ Q (d + 1) j = pathQ Q d i ++ [q.2.2.1] := by rw [pathQ, hq]; simp only; rw [h3]; rfl
    refine ⟨a1, hFr.trans a2, ?_, by rw [hpath, List.length_append, a4]; rfl, fun k hk => ?_⟩
    · rw [hpath, Sg_app, a4]
      refine ⟨a3, ?_, trivial⟩
      rw [Nat.zero_add, a5 d (Nat.le_refl _)]; exact vc
    · rw [a5 k (by omega), vo k (by omega)]
end
