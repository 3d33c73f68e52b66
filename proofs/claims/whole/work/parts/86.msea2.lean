section
variable {Γ : rhG} {b : Nat} {T : Tn} {g lb : Int} {md : Md} {L0 : Ar}
theorem m_beg2 (hG : GK Γ) (K : rhM → Nat → Option rhM) (Q : rhM → Prop) : ∀ (d n : Nat) (M : rhM) (k : Nat), MR M → k + d = 246960 → d < n →
    (∀ M', Fr [139] M M' → (∀ i, M'.1 139 i = if k ≤ i ∧ i < 246960 then J (-1) else M.1 139 i) → wp (K M' 102) Q) → wp (f_X12_begins_2 K Γ n M 102 (J k)) Q := by
  intro d
  induction d with
  | zero =>
    intro n M k hR hk hn hK
    obtain ⟨n, rfl⟩ : ∃ k, n = k + 1 := ⟨n - 1, by omega⟩
    rw [f_X12_begins_2, wp_ite_f (by rw [show (246960 : Int32) = J 246960 from rfl, J_lt (by omega) (by omega) (by omega) (by omega)]; omega)]
    exact hK M (Fr.refl _ _) (fun i => by rw [if_neg (by omega)])
  | succ d ih =>
    intro n M k hR hk hn hK
    obtain ⟨n, rfl⟩ : ∃ k, n = k + 1 := ⟨n - 1, by omega⟩
    rw [f_X12_begins_2, wp_ite_t (by rw [show (246960 : Int32) = J 246960 from rfl, J_lt (by omega) (by omega) (by omega) (by omega)]; omega), wp_ck_t (GKk102 hG), MRf56 hR, wp_ck_t (GKk139 hG), GKl139 hG, J_toInt (by omega) (by omega), wp_ck_t (by omega), J_clamp (by omega) (by omega), Int.toNat_natCast]
    dsimp only
    rw [show (1 : Int32) = J 1 from rfl, show (-(J 1) : Int32) = J (-1) from rfl, J_add, J_suc]
    have hF : Fr [139] M (rhsi M 139 k (J (-1))) := (Fr.refl _ _).si (by simp) _ _
    refine ih n _ (k + 1) hR (by omega) (by omega) (fun M' a e => hK M' (hF.trans a) (fun i => ?_))
    rw [e, si_1]
    by_cases c : i = k
    · rw [if_neg (by omega), if_pos ⟨rfl, c⟩, if_pos (by omega)]
    · by_cases c2 : k + 1 ≤ i ∧ i < 246960
      · rw [if_pos c2, if_pos (by omega)]
      · rw [if_neg c2, if_neg (by omega), if_neg (by omega)]
theorem m_begins (hG : GK Γ) {M : rhM} (hR : MR M) (hT : TM M b T g lb) (hw : TWf T) (h6 : tH T ≤ 6) (hA : RA M 131 0 132 0 L0) (wL : WA (tR T) (tH T) L0) (Q : rhM → Prop)
    (hQ : ∀ M', Fr [102, 128, 129, 138, 139, 141] M M' → MQu M' (tR T) [(L0, -1, 0, 0)] → (∀ k, k ≠ 60 → M'.1 102 k = M.1 102 k) → Q M') : wp (f_X12_begins Γ M 102) Q := by
  rw [f_X12_begins, show (0 : Int32) = J ((0 : Nat) : Int) from rfl]
  refine m_beg2 hG _ Q 246960 rhFU M 0 hR (by omega) (by have := FU_big; omega) (fun M1 F1 h1 => ?_)
  have R1 := hR.fr F1
  have T1 := hT.fr F1 (by rw [F1.i (by decide)]) (by rw [F1.i (by decide)]) (by rw [F1.i (by decide)]) (by decide)
  rw [f_X12_begins_21, wp_ck_t (GKk102 hG), wp_bind]
  refine (m_layNow hG R1 (hA.fr F1 (by decide) (by decide)) (by rw [wL.len]; exact hw.2.1) (by rw [wL.1]; exact hw.1)).mono (fun M2 h2 => ?_)
  obtain ⟨F2, A2⟩ := h2
  have R2 := R1.fr F2
  have T2 := T1.fr F2 (by rw [F2.i (by decide)]) (by rw [F2.i (by decide)]) (by rw [F2.i (by decide)]) (by decide)
  have hst := m_stateOf hG R2 T2 hw A2 wL
  have hsl := stn_lt wL h6
  rw [hst, wp_bind, wp_some, MRf56 R2, wp_ck_t (GKk139 hG), GKl139 hG, J_toInt (by omega) (by omega), wp_ck_t (by omega), MRf55 R2, wp_ck_t (GKk138 hG), GKl138 hG, wp_ck_t (by omega), MRf58 R2, wp_ck_t (GKk141 hG), GKl141 hG, wp_ck_t (by decide), J_clamp (by omega) (by omega), Int.toNat_natCast, show (0 : Int32).toNatClampNeg = 0 from rfl, wp_some]
  have fin : ∀ M3 : rhM, M3 = rhsi (rhsi (rhsi (rhsi M2 139 (stn (tR T) L0) 0) 138 (stn (tR T) L0) (-1)) 141 0 (J (stn (tR T) L0))) 102 60 1 → Q M3 := by
    intro M3 e
    have F3 : Fr [102, 138, 139, 141] M2 M3 := by rw [e]; exact ((((Fr.refl _ _).si (by simp) _ _).si (by simp) _ _).si (by simp) _ _).si (by simp) _ _
    refine hQ M3 ((F1.sub (by decide)).trans ((F2.sub (by decide)).trans (F3.sub (by decide)))) ⟨?_, fun j q hq => ?_, fun s hs hall => ?_⟩ (fun k hk => ?_)
    · rw [e, si_1, if_pos ⟨rfl, rfl⟩]; rfl
    · have hj0 : j = 0 := by have := (List.getElem?_eq_some_iff.mp hq).1; simpa using this
      subst hj0
      cases hq
      refine ⟨?_, ?_, fun h => by omega, fun _ => ?_⟩
      · rw [e, si_1, if_neg (by omega), si_1, if_pos ⟨rfl, rfl⟩]
      · rw [e, si_1, if_neg (by omega), si_1, if_neg (by omega), si_1, if_neg (by omega), si_1, if_pos ⟨rfl, rfl⟩]; rfl
      · rw [e, si_1, if_neg (by omega), si_1, if_neg (by omega), si_1, if_pos ⟨rfl, rfl⟩]; rfl
    · have hne : s ≠ stn (tR T) L0 := fun h => hall L0 (by simp [arrs]) h.symm
      rw [e, si_1, if_neg (by omega), si_1, if_neg (by omega), si_1, if_neg (by omega), si_1, if_neg (by omega), F2.i (by decide), h1, if_pos (by omega)]
    · rw [e, si_1, if_neg (by omega), si_1, if_neg (by omega), si_1, if_neg (by omega), si_1, if_neg (by omega), F2.i (by decide), F1.i (by decide)]
  exact fin _ rfl
def W4 : List Nat := [102, 127, 128, 129, 130, 137, 138, 139, 141, 143, 144]
theorem m_search11 (hG : GK Γ) (hw : TWf T) (hRH : 0 < tH T → 0 < tR T) (h4 : tR T ≤ 4) (h6 : tH T ≤ 6) (wL0 : WA (tR T) (tH T) L0) {most : Nat} (hmost : most < 2147483648) (Qp : Int32 × rhM → Prop) : ∀ (dd n : Nat) (M : rhM) (i : Nat), i + dd = 60481 → i ≤ (bq T most L0 i).length → dd + 1 < n →
    MR M → TM M b T g lb → MQu M (tR T) (bq T most L0 i) → ME M md → (∀ j q, j < i → (bq T most L0 i)[j]? = some q → ¬ pM md q.1) →
    (∀ M', Fr W4 M M' → MR M' → TM M' b T g lb → MQu M' (tR T) (FQ T most L0) → fmt (pM md) (FQ T most L0) = none → (∀ k, k ≠ 60 → M'.1 102 k = M.1 102 k) → Qp (-1, M')) →
    (∀ M' j q, Fr W4 M M' → MR M' → TM M' b T g lb → MQu M' (tR T) (bq T most L0 j) → (bq T most L0 j)[j]? = some q → fmt (pM md) (FQ T most L0) = some j → (∀ k, k ≠ 60 → M'.1 102 k = M.1 102 k) → Qp (J (stn (tR T) q.1), M')) →
    wp (f_X12_search_11 Γ n M 102 (J most) (J i)) Qp := by
  have w1 := hw.1
  have w2 := hw.2.1
  have hwm := ways_max h4 h6
  intro dd
  induction dd with
  | zero =>
    intro n M i hi hil
    have := (bq_QW (most := most) wL0 i).len (by omega) hRH
    omega
  | succ dd ih =>
    intro n M i hi hil hn hR hT hMQ hME hno hN hM
    obtain ⟨n, rfl⟩ : ∃ k, n = k + 1 := ⟨n - 1, by omega⟩
    have hQW := bq_QW (most := most) wL0 i
    have hQL := hQW.len (by omega) hRH
    rw [f_X12_search_11, wp_ck_t (GKk102 hG), hMQ.1]
    by_cases c1 : i < (bq T most L0 i).length
    · have hqe := List.getElem?_eq_getElem c1
      obtain ⟨x1, x2, -, -⟩ := hMQ.2.1 i _ hqe
      have hdep : dep (bq T most L0 i) i = (bq T most L0 i)[i].2.2.2 := by unfold dep; rw [hqe]
      have hdl := hQW.dep_le i c1
      generalize hqq : (bq T most L0 i)[i] = q at *
      have wq : WA (tR T) (tH T) q.1 := hQW.2.1 _ (List.mem_map.mpr ⟨q, List.mem_of_getElem? hqe, rfl⟩)
      have hsl := stn_lt wq h6
      rw [wp_ite_t (by rw [J_lt (by omega) (by omega) (by omega) (by omega)]; omega), MRf58 hR, wp_ck_t (GKk141 hG), GKl141 hG, J_toInt (by omega) (by omega), wp_ck_t (by omega), J_clamp (by omega) (by omega), Int.toNat_natCast, x1, wp_bind]
      refine (m_layState hG hR hT hw wq h4 h6).mono (fun M1 h1 => ?_)
      obtain ⟨F1, A1⟩ := h1
      have e102 : M1.1 102 = M.1 102 := F1.i (by decide)
      have R1 := hR.fr F1
      have T1 := hT.fr F1 (by rw [e102]) (by rw [e102]) (by rw [e102]) (by decide)
      have MQ1 := hMQ.fr (M' := M1) (by rw [e102]) (F1.i (by decide)) (F1.i (by decide)) (F1.i (by decide)) (F1.i (by decide))
      have ME1 := hME.fr (M' := M1) (by rw [e102]) (by rw [e102]) (by rw [e102]) (F1.i (by decide))
      have hend := m_isEnd hG R1 T1 hw A1 wq ME1
      have x1' : M1.1 141 i = J (stn (tR T) q.1) := by rw [F1.i (by decide)]; exact x1
      have x2' : M1.1 139 (stn (tR T) q.1) = J q.2.2.2 := by rw [F1.i (by decide)]; exact x2
      have FW : Fr W4 M M1 := F1.sub (by decide)
      rw [hend, wp_bind, wp_some]
      by_cases hp : pM md q.1
      · rw [bi_t hp, wp_ite_f (by decide), MRf58 R1, wp_ck_t (GKk141 hG), GKl141 hG, wp_ck_t (by omega), x1', wp_some]
        refine hM M1 i q FW R1 T1 MQ1 hqe ?_ (fun k _ => by rw [e102])
        have hpre := bq_FQ (T := T) (most := most) (L0 := L0) (i := i) (by omega)
        refine fmt_some.mpr ⟨⟨q, pre_get hpre hqe, hp⟩, fun j r hj hr => hno j r hj ?_⟩
        rw [pre_get' hpre (by omega)] at hr; exact hr
      · have hno' : ∀ j r, j < i + 1 → (bq T most L0 (i + 1))[j]? = some r → ¬ pM md r.1 := fun j r hj hr => by
          rw [pre_get' (bq_pre1 T most L0 i) (by omega)] at hr
          by_cases e : j = i
          · subst e; rw [hqe] at hr; cases hr; exact hp
          · exact hno j r (by omega) hr
        have hil' : i + 1 ≤ (bq T most L0 (i + 1)).length := by
          have := (bq_pre1 T most L0 i).length_le; omega
        rw [bi_f hp, wp_ite_t rfl, MRf58 R1, wp_ck_t (GKk141 hG), GKl141 hG, wp_ck_t (by omega), x1', MRf56 R1, wp_ck_t (GKk139 hG), GKl139 hG, J_toInt (by omega) (by omega), wp_ck_t (by omega), J_clamp (by omega) (by omega), Int.toNat_natCast, x2']
        by_cases c2 : q.2.2.2 < most
        · have hbq : bq T most L0 (i + 1) = growA T (bq T most L0 i) i := by rw [bq, if_pos (by omega)]
          rw [wp_ite_t (by rw [J_lt (by omega) (by omega) (by omega) (by omega)]; omega), wp_bind]
          refine m_spread hG hw hRH h4 h6 wq R1 T1 A1 MQ1 hQW hqe rfl _ (fun M2 F2 R2 T2 MQ2 e2 => ?_)
          have FW2 : Fr W4 M1 M2 := F2.sub (by decide)
          rw [← hbq] at MQ2
          have ME2 := ME1.fr (M' := M2) (e2 61 (by decide)) (e2 53 (by decide)) (e2 62 (by decide)) (F2.i (by decide))
          rw [f_X12_search_68, show (1 : Int32) = J 1 from rfl, J_add, J_suc]
          exact ih n M2 (i + 1) (by omega) hil' (by omega) R2 T2 MQ2 ME2 hno'
            (fun M' a1 a2 a3 a4 a5 a6 => hN M' (FW.trans (FW2.trans a1)) a2 a3 a4 a5 (fun k hk => by rw [a6 k hk, e2 k hk, e102]))
            (fun M' j r a1 a2 a3 a4 a5 a6 a7 => hM M' j r (FW.trans (FW2.trans a1)) a2 a3 a4 a5 a6 (fun k hk => by rw [a7 k hk, e2 k hk, e102]))
        · have hbq : bq T most L0 (i + 1) = bq T most L0 i := by rw [bq, if_neg (by omega)]
          rw [wp_ite_f (by rw [J_lt (by omega) (by omega) (by omega) (by omega)]; omega), f_X12_search_68, show (1 : Int32) = J 1 from rfl, J_add, J_suc]
          exact ih n M1 (i + 1) (by omega) hil' (by omega) R1 T1 (by rw [hbq]; exact MQ1) ME1 hno'
            (fun M' a1 a2 a3 a4 a5 a6 => hN M' (FW.trans a1) a2 a3 a4 a5 (fun k hk => by rw [a6 k hk, e102]))
            (fun M' j r a1 a2 a3 a4 a5 a6 a7 => hM M' j r (FW.trans a1) a2 a3 a4 a5 a6 (fun k hk => by rw [a7 k hk, e102]))
    · have hFQ := FQ_eq (T := T) (most := most) (L0 := L0) (i := i) (Or.inl (by omega)) (by omega)
      rw [wp_ite_f (by rw [J_lt (by omega) (by omega) (by omega) (by omega)]; omega), wp_some]
      refine hN M (Fr.refl _ _) hR hT (by rw [hFQ]; exact hMQ) ?_ (fun _ _ => rfl)
      rw [hFQ]
      refine fmt_none.mpr (fun L hL => ?_)
      obtain ⟨x, hx, rfl⟩ := List.mem_map.mp hL
      obtain ⟨j, hj, hje⟩ := List.getElem_of_mem hx
      exact hno j x (by omega) (by rw [List.getElem?_eq_getElem hj, hje])
theorem m_search (hG : GK Γ) {M : rhM} (hR : MR M) (hT : TM M b T g lb) (hw : TWf T) (hRH : 0 < tH T → 0 < tR T) (h4 : tR T ≤ 4) (h6 : tH T ≤ 6) (hA : RA M 131 0 132 0 L0) (wL0 : WA (tR T) (tH T) L0) {most : Nat} (hmost : most < 2147483648) (hME : ME (rhsi M 102 61 (J md.1)) md) (Qp : Int32 × rhM → Prop)
    (hN : ∀ M', Fr W4 M M' → MR M' → TM M' b T g lb → MQu M' (tR T) (FQ T most L0) → fmt (pM md) (FQ T most L0) = none → (∀ k, k ≠ 60 → k ≠ 61 → M'.1 102 k = M.1 102 k) → Qp (-1, M'))
    (hM : ∀ M' j q, Fr W4 M M' → MR M' → TM M' b T g lb → MQu M' (tR T) (bq T most L0 j) → (bq T most L0 j)[j]? = some q → fmt (pM md) (FQ T most L0) = some j → (∀ k, k ≠ 60 → k ≠ 61 → M'.1 102 k = M.1 102 k) → Qp (J (stn (tR T) q.1), M')) :
    wp (f_X12_search Γ M 102 (J md.1) (J most)) Qp := by
  have F0 : Fr [102] M (rhsi M 102 61 (J md.1)) := (Fr.refl _ _).si (by simp) _ _
  have e0 : ∀ k, k ≠ 61 → (rhsi M 102 61 (J md.1)).1 102 k = M.1 102 k := fun k hk => by rw [si_1, if_neg (by omega)]
  have T0 : TM (rhsi M 102 61 (J md.1)) b T g lb := hT.fr F0 (e0 34 (by decide)) (e0 44 (by decide)) (e0 45 (by decide)) (by decide)
  have A0 := hA.fr F0 (by decide) (by decide)
  rw [f_X12_search, wp_ck_t (GKk102 hG)]
  dsimp only
  rw [wp_bind]
  generalize rhsi M 102 61 (J md.1) = M0 at *
  refine m_begins hG (hR.fr F0) T0 hw h6 A0 wL0 _ (fun M1 F1 MQ1 e1 => ?_)
  have FW : Fr W4 M M1 := (F0.sub (by decide)).trans (F1.sub (by decide))
  rw [show (0 : Int32) = J ((0 : Nat) : Int) from rfl]
  refine m_search11 hG hw hRH h4 h6 wL0 hmost Qp 60481 rhFU M1 0 (by omega) (by omega) (by have := FU_big; omega) ((hR.fr F0).fr F1) (T0.fr F1 (e1 34 (by decide)) (e1 44 (by decide)) (e1 45 (by decide)) (by decide)) MQ1 (hME.fr (e1 61 (by decide)) (e1 53 (by decide)) (e1 62 (by decide)) (F1.i (by decide))) (fun j q hj => by omega)
    (fun M' a1 a2 a3 a4 a5 a6 => hN M' (FW.trans a1) a2 a3 a4 a5 (fun k hk hk2 => by rw [a6 k hk, e1 k hk, e0 k hk2]))
    (fun M' j r a1 a2 a3 a4 a5 a6 a7 => hM M' j r (FW.trans a1) a2 a3 a4 a5 a6 (fun k hk hk2 => by rw [a7 k hk, e1 k hk, e0 k hk2]))
theorem m_way17 (hG : GK Γ) {Q : List Nd} (hQW : QW T L0 Q) (h6 : tH T ≤ 6) (hQl : Q.length ≤ 60480) : ∀ (d n : Nat) (M : rhM) (j : Nat) (q : Nd), MR M → MQu M (tR T) Q → Q[j]? = some q → q.2.2.2 = d → d < n →
    wp (f_X12_layWay_17 Γ n M 102 (J d) (J (stn (tR T) q.1))) (fun M' => Fr [145] M M' ∧ Sg (M'.1 145) 0 (pathQ Q d j) ∧ (pathQ Q d j).length = d ∧ ∀ i, d ≤ i → M'.1 145 i = M.1 145 i) := by
  intro d
  induction d with
  | zero =>
    intro n M j q hR hMQ hq hd hn
    obtain ⟨n, rfl⟩ : ∃ k, n = k + 1 := ⟨n - 1, by omega⟩
    have wq : WA (tR T) (tH T) q.1 := hQW.2.1 _ (List.mem_map.mpr ⟨q, List.mem_of_getElem? hq, rfl⟩)
    have hsl := stn_lt wq h6
    have hj0 : j = 0 := by
      by_cases c : 0 < j
      · obtain ⟨i, pq, a, -, -, -, -, -, -, h7⟩ := hQW.2.2.2 j q hq c
        omega
      · omega
    have h138 := (hMQ.2.1 j q hq).2.2.2 hj0
    rw [f_X12_layWay_17, wp_ck_t (GKk102 hG), MRf55 hR, wp_ck_t (GKk138 hG), GKl138 hG, J_toInt (by omega) (by omega), wp_ck_t (by omega), J_clamp (by omega) (by omega), Int.toNat_natCast, h138, wp_ite_t (by decide), wp_some]
    exact ⟨Fr.refl _ _, trivial, rfl, fun _ _ => rfl⟩
  | succ d ih =>
    intro n M j q hR hMQ hq hd hn
    obtain ⟨n, rfl⟩ : ∃ k, n = k + 1 := ⟨n - 1, by omega⟩
    have wq : WA (tR T) (tH T) q.1 := hQW.2.1 _ (List.mem_map.mpr ⟨q, List.mem_of_getElem? hq, rfl⟩)
    have hsl := stn_lt wq h6
    have hjl := (List.getElem?_eq_some_iff.mp hq).1
    have hdl := hQW.dep_le j hjl
    have edep : dep Q j = d + 1 := by unfold dep; rw [hq]; exact hd
    obtain ⟨i, pq, h1, h2, h3, h4'⟩ := hQW.dep_par hq hd
    have wp' : WA (tR T) (tH T) pq.1 := hQW.2.1 _ (List.mem_map.mpr ⟨pq, List.mem_of_getElem? h2, rfl⟩)
    have hslp := stn_lt wp' h6
    obtain ⟨y1, y2⟩ := (hMQ.2.1 j q hq).2.2.1 (by omega)
    have h138 := y2 i pq h1 h3 h2
    have e1 : ((d + 1 : Nat) : Int) + -1 = (d : Int) := by omega
    have hF : Fr [145] M (rhsi M 145 d (M.1 137 (stn (tR T) q.1))) := (Fr.refl _ _).si (by simp) _ _
    have h138' : (rhsi M 145 d (M.1 137 (stn (tR T) q.1))).1 138 (stn (tR T) q.1) = J (stn (tR T) pq.1) := by rw [si_1, if_neg (by omega)]; exact h138
    rw [f_X12_layWay_17, wp_ck_t (GKk102 hG), MRf55 hR, wp_ck_t (GKk138 hG), GKl138 hG, J_toInt (by omega) (by omega), wp_ck_t (by omega), J_clamp (by omega) (by omega), Int.toNat_natCast, h138, wp_ite_f (by rw [show (0 : Int32) = J 0 from rfl, J_lt (by omega) (by omega) (by omega) (by omega)]; omega)]
    dsimp only
    rw [MRf54 hR, wp_ck_t (GKk137 hG), GKl137 hG, wp_ck_t (by omega), MRf65 hR, wp_ck_t (GKk145 hG), GKl145 hG, show (-1 : Int32) = J (-1) from rfl, J_add, e1, J_toInt (by omega) (by omega), wp_ck_t (by omega), J_clamp (by omega) (by omega), Int.toNat_natCast, h138']
    refine (ih n _ i pq (hR.fr hF) (hMQ.fr (by rw [hF.i (by decide)]) (hF.i (by decide)) (hF.i (by decide)) (hF.i (by decide)) (hF.i (by decide))) h2 h4' (by omega)).mono (fun M' h => ?_)
    obtain ⟨a1, a2, a3, a4⟩ := h
    have hpath : pathQ Q (d + 1) j = pathQ Q d i ++ [q.2.2.1] := by rw [pathQ, hq]; simp only; rw [h3]; rfl
    refine ⟨hF.trans a1, ?_, by rw [hpath, List.length_append, a3]; rfl, fun k hk => ?_⟩
    · rw [hpath, Sg_app, a3]
      refine ⟨a2, ?_, trivial⟩
      rw [Nat.zero_add, a4 d (Nat.le_refl _), si_1, if_pos ⟨rfl, rfl⟩]; exact y1
    · rw [a4 k (by omega), si_1, if_neg (by omega)]
theorem m_layWay (hG : GK Γ) {Q : List Nd} (hQW : QW T L0 Q) (h6 : tH T ≤ 6) (hQl : Q.length ≤ 60480) {M : rhM} {j : Nat} {q : Nd} (hR : MR M) (hMQ : MQu M (tR T) Q) (hq : Q[j]? = some q) :
    wp (f_X12_layWay Γ M 102 (J (stn (tR T) q.1))) (fun M' => Fr [102, 145] M M' ∧ Sg (M'.1 145) 0 (rowTo Q j) ∧ (rowTo Q j).length = dep Q j ∧ M'.1 102 66 = J (dep Q j) ∧ ∀ k, k ≠ 66 → M'.1 102 k = M.1 102 k) := by
  have wq : WA (tR T) (tH T) q.1 := hQW.2.1 _ (List.mem_map.mpr ⟨q, List.mem_of_getElem? hq, rfl⟩)
  have hsl := stn_lt wq h6
  have edep : dep Q j = q.2.2.2 := by unfold dep; rw [hq]
  have h139 := (hMQ.2.1 j q hq).2.1
  have hjl := (List.getElem?_eq_some_iff.mp hq).1
  have hdl := hQW.dep_le j hjl
  have F0 : Fr [102] M (rhsi M 102 66 (J q.2.2.2)) := (Fr.refl _ _).si (by simp) _ _
  have e0 : ∀ k, k ≠ 66 → (rhsi M 102 66 (J q.2.2.2)).1 102 k = M.1 102 k := fun k hk => by rw [si_1, if_neg (by omega)]
  have e66 : (rhsi M 102 66 (J q.2.2.2)).1 102 66 = J q.2.2.2 := by rw [si_1, if_pos ⟨rfl, rfl⟩]
  rw [f_X12_layWay, wp_ck_t (GKk102 hG), MRf56 hR, wp_ck_t (GKk139 hG), GKl139 hG, J_toInt (by omega) (by omega), wp_ck_t (by omega), J_clamp (by omega) (by omega), Int.toNat_natCast, h139]
  dsimp only
  rw [e66]
  refine (m_way17 hG hQW h6 hQl q.2.2.2 rhFU _ j q (hR.fr F0) (hMQ.fr (e0 60 (by decide)) (F0.i (by decide)) (F0.i (by decide)) (F0.i (by decide)) (F0.i (by decide))) hq rfl (by have := FU_big; omega)).mono (fun M' h => ?_)
  obtain ⟨a1, a2, a3, a4⟩ := h
  unfold rowTo
  rw [edep]
  exact ⟨(F0.sub (by decide)).trans (a1.sub (by decide)), a2, a3, by rw [a1.i (by decide)]; exact e66, fun k hk => by rw [a1.i (by decide)]; exact e0 k hk⟩
end
