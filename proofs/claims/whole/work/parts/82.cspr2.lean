theorem QW.dep_le {T : Tn} {L0 : Ar} {Q : List Nd} (h : QW T L0 Q) : ∀ (j : Nat), j < Q.length → dep Q j ≤ j := by
  intro j
  induction j using Nat.strongRecOn with
  | _ j ih =>
    intro hj
    by_cases h0 : 0 < j
    · obtain ⟨i, pq, a, h1, h2, -, -, -, -, h7⟩ := h.2.2.2 j _ (List.getElem?_eq_getElem hj) h0
      have hi := ih i h1 (by omega)
      have e1 : dep Q j = Q[j].2.2.2 := by unfold dep; rw [List.getElem?_eq_getElem hj]
      have e2 : dep Q i = pq.2.2.2 := by unfold dep; rw [h2]
      omega
    · rw [show j = 0 by omega]
      unfold dep; rw [h.1]; exact Nat.le_refl _
theorem QW.dep_par {T : Tn} {L0 : Ar} {Q : List Nd} (h : QW T L0 Q) {j : Nat} {q : Nd} (hq : Q[j]? = some q) {d : Nat} (hd : q.2.2.2 = d + 1) : ∃ i pq, i < j ∧ Q[i]? = some pq ∧ q.2.1 = ((i : Nat) : Int) ∧ pq.2.2.2 = d := by
  by_cases h0 : 0 < j
  · obtain ⟨i, pq, a, h1, h2, h3, -, -, -, h7⟩ := h.2.2.2 j q hq h0
    exact ⟨i, pq, h1, h2, h3, by omega⟩
  · rw [show j = 0 by omega, h.1] at hq
    cases hq; simp at hd
section
variable {Γ : rhG} {T : Tn} {S t cp tln Ln tb : Nat} {md : Md} {L0 : Ar}
theorem c_spread29 (hw : TWf T) (hRH : 0 < tH T → 0 < tR T) (d : t + 10 < S) (hb : isBits (ways (tR T) (tH T)) tb) (hcw : ways (tR T) (tH T) ≤ cp) (h60 : ways (tR T) (tH T) ≤ 60480) (wL0 : WA (tR T) (tH T) L0) {z : Int} {most : Nat} (hz : z.toNat = most) (hz2 : z < 2147483648) (hz3 : -2147483648 ≤ z) (Qp : Int32 × rhM → Prop) : ∀ (dd n : Nat) (M : rhM) (i : Nat),
    i + dd = 60481 → i ≤ (bq T most L0 i).length → GI Γ M S t cp tln Ln tb T L0 md (bq T most L0 i) → (∀ L, L ∈ arrs (bq T most L0 i) → ¬ pM md L) → dd + 1 < n →
    (∀ M', Fr (W2 S t) M M' → GI Γ M' S t cp tln Ln tb T L0 md (FQ T most L0) → fmt (pM md) (FQ T most L0) = none → (∀ j, j ≠ 1 → j ≠ 11 → M'.1 S j = M.1 S j) → Qp (M'.1 S 11, M')) →
    (∀ M' Q' j, Fr (W2 S t) M M' → Q' <+: FQ T most L0 → Q'.length = j + 1 → fmt (pM md) Q' = some j → GI Γ M' S t cp tln Ln tb T L0 md Q' → (∀ j, j ≠ 1 → j ≠ 11 → M'.1 S j = M.1 S j) → Qp (J j, M')) →
    wp (f_X5_spread_29 Γ n M S (J z) (J i)) Qp := by
  have w1 := hw.1
  have w2 := hw.2.1
  intro dd
  induction dd with
  | zero =>
    intro n M i hi hil hG hno hn hN hM
    have := (bq_QW (most := most) wL0 i).len w2 hRH
    omega
  | succ dd ih =>
    intro n M i hi hil hG hno hn hN hM
    obtain ⟨n, rfl⟩ : ∃ k, n = k + 1 := ⟨n - 1, by omega⟩
    have hQW := bq_QW (most := most) wL0 i
    have hQL := hQW.len w2 hRH
    have hS := hG.1.1
    have s2 := hS.2.1
    have sF := hS.2.2.2.2.2.2.1
    have hcp := hS.2.2.2.2.2.2.2.2.2.2.2.2.1
    obtain ⟨tab, hFW⟩ := hG.2.2.1.1
    have hal : (arrs (bq T most L0 i)).length = (bq T most L0 i).length := by simp [arrs]
    have h0 := hFW.1
    rw [hal] at h0
    rw [f_X5_spread_29, wp_ck_t hS.1, s2, wp_ck_t sF.1, h0]
    by_cases c1 : i < (bq T most L0 i).length
    · have hqe := List.getElem?_eq_getElem c1
      have hd := (hG.2.2.1.2 i _ hqe).2.2
      have hdep : dep (bq T most L0 i) i = (bq T most L0 i)[i].2.2.2 := by unfold dep; rw [hqe]
      rw [← hdep] at hd
      have hdb : dep (bq T most L0 i) i ≤ 60480 := by
        have := hQW.dep_le i c1; omega
      rw [wp_ite_t (by rw [J_lt (by omega) (by omega) (by omega) (by omega)]; omega), sF.2.2.2.2.2.2.2.2.2.1, wp_ck_t sF.2.2.2.2.1.1, sF.2.2.2.2.1.2, J_toInt (by omega) (by omega), wp_ck_t (by omega), J_clamp (by omega) (by omega), Int.toNat_natCast, hd]
      by_cases c2 : dep (bq T most L0 i) i < most
      · have hbq : bq T most L0 (i + 1) = growA T (bq T most L0 i) i := by rw [bq, if_pos c2]
        rw [wp_ite_t (by rw [J_lt (by omega) (by omega) (by omega) (by omega)]; omega), wp_bind]
        refine c_goOn hw hRH d hb hcw hG hqe hno _ (fun M' b1 b2 b3 b4 => ?_) (fun M' Q' j b1 b2 b3 b4 b5 b6 => ?_)
        · rw [← hbq] at b2 b3
          dsimp only
          rw [wp_ite_t rfl, show (1 : Int32) = J 1 from rfl, J_add, J_suc]
          have hpre := (bq_pre1 T most L0 i).length_le
          exact ih n M' (i + 1) (by omega) (by
            have hpre2 : i + 1 ≤ (bq T most L0 (i + 1)).length := by omega
            exact hpre2) b2 b3 (by omega)
            (fun M'' x1 x2 x3 x4 => hN M'' (b1.trans x1) x2 x3 (fun j a b => by rw [x4 j a b, b4 j a b]))
            (fun M'' Q' j x1 x2 x3 x4 x5 x6 => hM M'' Q' j (b1.trans x1) x2 x3 x4 x5 (fun j a b => by rw [x6 j a b, b4 j a b]))
        · have hj : j < 60481 := by
            have := b5.2.1.len w2 hRH; omega
          dsimp only
          rw [wp_ite_f (by rw [show (-1 : Int32) = J (-1) from rfl, J_eq (by omega) (by omega) (by omega) (by omega)]; omega), wp_some]
          exact hM M' Q' j b1 (by rw [← hbq] at b2; exact b2.trans (bq_FQ (by omega))) b3 b4 b5 b6
      · have hFQ := FQ_eq (T := T) (most := most) (L0 := L0) (i := i) (Or.inr ⟨c1, by omega⟩) (by omega)
        rw [wp_ite_f (by rw [J_lt (by omega) (by omega) (by omega) (by omega)]; omega), wp_some]
        exact hN M (Fr.refl _ _) (by rw [hFQ]; exact hG) (by rw [hFQ]; exact fmt_none.mpr hno) (fun _ _ _ => rfl)
    · have hFQ := FQ_eq (T := T) (most := most) (L0 := L0) (i := i) (Or.inl (by omega)) (by omega)
      rw [wp_ite_f (by rw [J_lt (by omega) (by omega) (by omega) (by omega)]; omega), wp_some]
      exact hN M (Fr.refl _ _) (by rw [hFQ]; exact hG) (by rw [hFQ]; exact fmt_none.mpr hno) (fun _ _ _ => rfl)
def BMp (M : rhM) (S : Nat) (T : Tn) (md : Md) : Prop := M.1 S 7 = J md.1 ∧ md.1 ≤ 2 ∧ (md.1 = 0 → M.2.1 S 8 = jl (dg md.2.1) ∧ M.2.1 S 9 = jl (2 ^ (4 * md.2.1.length) - 1) ∧ (∀ z, z ∈ md.2.1 → z < 8) ∧ md.2.1.length ≤ tH T) ∧ (md.1 = 1 → M.1 S 10 = J md.2.2 ∧ md.2.2 < tH T)
theorem c_spread (hw : TWf T) (hRH : 0 < tH T → 0 < tR T) (d : t + 10 < S) (hcw : ways (tR T) (tH T) ≤ cp) (h60 : ways (tR T) (tH T) ≤ 60480) (hw1 : 1 ≤ ways (tR T) (tH T)) {M : rhM} (hS : SSh Γ M S cp tln Ln) (hts : TSh Γ M t) (hT : TC M t T) (wL0 : WA (tR T) (tH T) L0) (hmd : BMp M S T md) {z : Int} {most : Nat} (hz : z.toNat = most) (hz2 : z < 2147483648) (hz3 : -2147483648 ≤ z) (Qp : Int32 × rhM → Prop)
    (hN : ∀ M' tb, Fr (W2 S t) (rs2 M S t) M' → GI Γ M' S t cp tln Ln tb T L0 md (FQ T most L0) → fmt (pM md) (FQ T most L0) = none → (∀ j, j ≠ 1 → j ≠ 11 → M'.1 S j = M.1 S j) → Qp (M'.1 S 11, M'))
    (hM : ∀ M' tb Q' j, Fr (W2 S t) (rs2 M S t) M' → Q' <+: FQ T most L0 → Q'.length = j + 1 → fmt (pM md) Q' = some j → GI Γ M' S t cp tln Ln tb T L0 md Q' → (∀ j, j ≠ 1 → j ≠ 11 → M'.1 S j = M.1 S j) → Qp (J j, M')) :
    wp (f_X5_spread Γ M S t (jl (wn L0)) (J z)) Qp := by
  have w1 := hw.1
  have w2 := hw.2.1
  have hcp := hS.2.2.2.2.2.2.2.2.2.2.2.2.1
  rw [f_X5_spread, wp_ck_t hS.1, wp_bind]
  refine c_sbegin hw hRH d hcw hw1 hS hts hT wL0 _ (fun M1 tb hb a1 a2 a3 a4 a5 a6 a7 => ?_)
  have hroot : QW T L0 [(L0, -1, 0, 0)] := bq_QW (most := most) wL0 0
  obtain ⟨tab, hFW⟩ := a3.1
  have hBM : BM M1 S T md [] := by
    obtain ⟨b1, b2, b3, b4⟩ := hmd
    refine ⟨by rw [a6 7 (by decide) (by decide)]; exact b1, b2, by rw [a7]; exact b3, by rw [a6 10 (by decide) (by decide)]; exact b4, ?_, ?_⟩
    · rw [a4]; split <;> rfl
    · rw [a5]; split <;> rfl
  dsimp only
  rw [wp_ite_f (by decide), wp_bind]
  have hword : M1.2.1 (S + 9) 0 = jl (wn L0) := hFW.2.2.1 0 _ rfl
  have hmet := fun Qq => c_isMet (Γ := Γ) (l := []) a2.1.1 a2.1.2.1 a2.1.2.2.2.2.2.2.1 hcp a2.2.1 a2.2.2.1 a2.2.2.2.1 hw hRH (fun L hL => by cases hL) wL0 (by show 0 < cp; omega) hword hBM Qq
  refine hmet _ (fun M2 c1 c2 c3 c4 => ?_)
  have cF1 : Fr (W1 S) M1 M2 := c1.sub (by unfold W1; simp)
  have cF2 : Fr (W2 S t) M1 M2 := c1.sub (by unfold W2; simp)
  have hGI : GI Γ M2 S t cp tln Ln tb T L0 md [(L0, -1, 0, 0)] := ⟨a2.fr1 d cF1, hroot, a3.fr c1 (by first | (simp; done) | (simp; omega)) (by first | (simp; done) | (simp; omega)) (by first | (simp; done) | (simp; omega)) (by first | (simp; done) | (simp; omega)) (by first | (simp; done) | (simp; omega)) (by first | (simp; done) | (simp; omega)), c4⟩
  have ej : ∀ j, j ≠ 1 → j ≠ 11 → M2.1 S j = M.1 S j := fun j x y => by rw [c2 j x y, a6 j x y]
  by_cases hp : pM md L0
  · rw [bi_t hp, wp_ite_f (show ¬ (1 : Int32) = 0 by decide), wp_some]
    refine hM M2 tb [(L0, -1, 0, 0)] 0 (a1.trans cF2) (bq_FQ (T := T) (most := most) (L0 := L0) (i := 0) (by omega)) rfl ?_ hGI ej
    exact fmt_some.mpr ⟨⟨(L0, -1, 0, 0), rfl, hp⟩, fun i q hi => by omega⟩
  · rw [bi_f hp, wp_ite_t rfl, show (0 : Int32) = J ((0 : Nat) : Int) from rfl]
    refine c_spread29 hw hRH d hb hcw h60 wL0 hz hz2 hz3 Qp 60481 rhFU M2 0 (by omega) (by omega) hGI (fun L hL => ?_) (by have := FU_big2; omega)
      (fun M' x1 x2 x3 x4 => hN M' tb (a1.trans (cF2.trans x1)) x2 x3 (fun j x y => by rw [x4 j x y, ej j x y]))
      (fun M' Q' j x1 x2 x3 x4 x5 x6 => hM M' tb Q' j (a1.trans (cF2.trans x1)) x2 x3 x4 x5 (fun j x y => by rw [x6 j x y, ej j x y]))
    simp only [bq, arrs, List.map_cons, List.map_nil, List.mem_singleton] at hL
    rw [hL]; exact hp
end
/-! a row laid down -/
section
variable {Γ : rhG} {T : Tn} {cp tln tb : Nat} {L0 : Ar} {Q : List Nd} {F p c : Nat}
theorem c_copy31 (hcp : cp ≤ 60480) (hQW : QW T L0 Q) (hQc : Q.length ≤ cp) (hp : Γ.2.2.1 p = 4) (hc : Γ.2.2.1 c = 15) (hd : c ∉ [F, F + 1, F + 2, F + 3, F + 4, F + 5, p]) (hcl : Γ.2.2.2 c < 2147483648) : ∀ (d n : Nat) (M : rhM) (j : Nat) (q : Nd), FSh Γ M F cp tln → FN M F Q → M.2.2 p 0 = c → Q[j]? = some q → q.2.2.2 = d → d ≤ Γ.2.2.2 c → d ≤ 60480 → d < n →
    wp (f_X0_copyRow_31 n Γ M F (J j) p (J ((d : Int) - 1))) (fun r => r.1 = Γ ∧ Fr [c] M r.2 ∧ Sg (r.2.1 c) 0 (pathQ Q d j) ∧ (pathQ Q d j).length = d ∧ ∀ i, d ≤ i → r.2.1 c i = M.1 c i) := by
  intro d
  induction d with
  | zero =>
    intro n M j q hF hN hpc hq hqd hdc hd6 hn
    obtain ⟨n, rfl⟩ : ∃ k, n = k + 1 := ⟨n - 1, by omega⟩
    rw [f_X0_copyRow_31]
    rw [wp_ite_t (by rw [show (0 : Int32) = J 0 from rfl, J_lt (by omega) (by omega) (by omega) (by omega)]; omega), wp_some]
    exact ⟨rfl, Fr.refl _ _, trivial, rfl, fun _ _ => rfl⟩
  | succ d ih =>
    intro n M j q hF hN hpc hq hqd hdc hd6 hn
    obtain ⟨n, rfl⟩ : ∃ k, n = k + 1 := ⟨n - 1, by omega⟩
    obtain ⟨i, pq, h1, h2, h3, h4⟩ := hQW.dep_par hq hqd
    have hjl := (List.getElem?_eq_some_iff.mp hq).1
    obtain ⟨v1, v2, v3⟩ := hN j q hq
    have hF0 := hF
    obtain ⟨s0, -, ⟨s2, n2⟩, ⟨s3, n3⟩, -, -, r1, r2, r3, r4, r5⟩ := hF
    have e1 : ((d + 1 : Nat) : Int) - 1 = d := by omega
    have hcd := hd
    simp only [List.mem_cons, List.not_mem_nil, or_false, not_or] at hcd
    have v1' : (rhsi M c d (M.1 (F + 3) j)).1 (F + 2) j = J i := by rw [si_1, if_neg (by omega), v1, h3]
    have hFr : Fr [c] M (rhsi M c d (M.1 (F + 3) j)) := (Fr.refl _ _).si (by simp) _ _
    rw [f_X0_copyRow_31, e1]
    rw [wp_ite_f (by rw [show (0 : Int32) = J 0 from rfl, J_lt (by omega) (by omega) (by omega) (by omega)]; omega), wp_ck_t hp, wp_ck_t s0, r3, wp_ck_t s3, n3, J_toInt (by omega) (by omega), wp_ck_t (by omega), hpc, wp_ck_t hc, J_toInt (by omega) (by omega), wp_ck_t (by omega), J_clamp (by omega) (by omega), J_clamp (by omega) (by omega), Int.toNat_natCast, Int.toNat_natCast]
    dsimp only
    rw [r2, wp_ck_t s2, n2, wp_ck_t (by omega), v1', show (-1 : Int32) = J (-1) from rfl, J_add, show (d : Int) + -1 = (d : Int) - 1 by omega]
    refine (ih n (rhsi M c d (M.1 (F + 3) j)) i pq (hF0.fr rfl) ?_ hpc h2 h4 (by omega) (by omega) (by omega)).mono (fun r hr => ?_)
    · unfold FN
      rw [hFr.i (by simp; omega), hFr.i (by simp; omega), hFr.i (by simp; omega)]; exact hN
    · obtain ⟨a1, a2, a3, a4, a5⟩ := hr
      have hpath : pathQ Q (d + 1) j = pathQ Q d i ++ [q.2.2.1] := by rw [pathQ, hq]; simp only; rw [h3]; rfl
      refine ⟨a1, hFr.trans a2, ?_, by rw [hpath, List.length_append, a4]; rfl, fun k hk => ?_⟩
      · rw [hpath, Sg_app, a4]
        refine ⟨a3, ?_, trivial⟩
        rw [Nat.zero_add, a5 d (Nat.le_refl _), si_1, if_pos ⟨rfl, rfl⟩]; exact v2
      · rw [a5 k (by omega), si_1, if_neg (by omega)]
end
