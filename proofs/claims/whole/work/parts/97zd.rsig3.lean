/-! SIGHTS: THE REFERENCE COUNTS -/
def WR : List Nat := [127, 128, 129, 130, 154, 155, 156, 157]
def fB : Nat → Nat
  | 0 => 1
  | m + 1 => 1 + 33 * fB m
section
variable {Γ : rhG} {T : Tn} {b : Nat} {lb : Int}
/-- what a walk leaves: the levels below d, the masks -/
def PR (T : Tn) (d : Nat) (M M' : rhM) (v : Nat → Nat) (l : List Ar) : Prop := Fr WR M M' ∧ (∀ j, j < 8 * d → M'.1 155 j = M.1 155 j) ∧ (∀ j, j < 6 * d → M'.1 156 j = M.1 156 j) ∧ (∀ j, j < d → M'.1 157 j = M.1 157 j) ∧ ∀ h, h < tH T → M'.1 154 h = J ((v h ||| mskV l h : Nat) : Int)
theorem PR_then {M M' M'' : rhM} {d : Nat} {v : Nat → Nat} {a c : List Ar} (h : PR T d M M' v a) (h2 : PR T d M' M'' (fun x => v x ||| mskV a x) c) : PR T d M M'' v (a ++ c) := by
  obtain ⟨a1, a2, a3, a4, a5⟩ := h
  obtain ⟨b1, b2, b3, b4, b5⟩ := h2
  exact ⟨a1.trans b1, fun j hj => by rw [b2 j hj, a2 j hj], fun j hj => by rw [b3 j hj, a3 j hj], fun j hj => by rw [b4 j hj, a4 j hj], fun x hx => by rw [b5 x hx, mskV_app, Nat.or_assoc]⟩
theorem PR_low {M M' : rhM} {d e : Nat} {v : Nat → Nat} {a : List Ar} (h : PR T e M M' v a) (hd : d ≤ e) : PR T d M M' v a := by
  obtain ⟨a1, a2, a3, a4, a5⟩ := h
  exact ⟨a1, fun j hj => a2 j (by omega), fun j hj => a3 j (by omega), fun j hj => a4 j (by omega), a5⟩
theorem PR_nil {M M' : rhM} {d : Nat} {v : Nat → Nat} (hF : Fr WR M M') (h5 : ∀ j, j < 8 * d → M'.1 155 j = M.1 155 j) (h6 : ∀ j, j < 6 * d → M'.1 156 j = M.1 156 j) (h7 : ∀ j, j < d → M'.1 157 j = M.1 157 j) (h4 : ∀ h, h < tH T → M'.1 154 h = J (v h)) : PR T d M M' v [] :=
  ⟨hF, h5, h6, h7, fun h hh => by show _ = J ((v h ||| 0 : Nat) : Int); rw [Nat.or_zero]; exact h4 h hh⟩
theorem RA_low {M M' : rhM} {d : Nat} {L : Ar} (h : RA M 155 (8 * d) 156 (6 * d) L) (h8 : (fl [] L).length ≤ 8) (h5 : L.length ≤ 5) (e5 : ∀ j, j < 8 * (d + 1) → M'.1 155 j = M.1 155 j) (e6 : ∀ j, j < 6 * (d + 1) → M'.1 156 j = M.1 156 j) : RA M' 155 (8 * d) 156 (6 * d) L :=
  h.cp h8 h5 (fun i hi => e5 _ (by omega)) (fun i hi => e6 _ (by omega))
theorem R10.frS {M M' : rhM} {W : List Nat} {sg : List Si} (h : R10 M sg) (hF : Fr W M M') (hW : ∀ r, r ∈ W → r ≠ 102 ∧ (r < 149 ∨ (153 < r ∧ r ≠ 158))) : R10 M' sg := by
  have e : ∀ r, (r = 102 ∨ (149 ≤ r ∧ r ≤ 153) ∨ r = 158) → M'.1 r = M.1 r := fun r hr => hF.i (fun hm => by have := hW r hm; omega)
  unfold R10 at *
  rw [e 102 (by omega), e 149 (by omega), e 150 (by omega), e 151 (by omega), e 152 (by omega), e 153 (by omega), e 158 (by omega)]
  exact h
set_option maxHeartbeats 2000000 in
theorem r_walk (hG : GK Γ) (hw : TWf T) {sg : List Si} (hSg : SgW T sg) {n : Nat} (hn3 : n ≤ 3) {k : Int} (k1 : -2147483648 ≤ k) (k2 : k < 2147483648) (Q : Int32 × rhM → Prop) : ∀ (m d : Nat), d + m + 1 = n → ∀ (rest : List Tr) (f f0 : Nat) (M : rhM) (L : Ar) (c : Int) (cnt : Nat) (v : Nat → Nat), f0 + (rest.length + 1) * fB m ≤ f → MR M → TM M b T (-1) lb → R10 M sg → WA (tR T) (tH T) L → RA M 155 (8 * d) 156 (6 * d) L → M.1 157 d = J c → RS T L c rest → -1 ≤ c ∧ c < 500 → (∀ h, h < tH T → M.1 154 h = J (v h)) →
    (∀ f' M', f0 ≤ f' → PR T d M M' v (rest.flatMap fun a => wk T sg (kset sg n k) m (d + 1) (mvA L a)) → wp (f_X12_rowsOf_62 Γ f' M' 102 (J n) (J k) (J ((cnt + (rest.flatMap fun a => wk T sg (kset sg n k) m (d + 1) (mvA L a)).length : Nat) : Int)) (J ((d : Int) - 1))) Q) →
    wp (f_X12_rowsOf_62 Γ f M 102 (J n) (J k) (J cnt) (J d)) Q := by
  have w1 := hw.1
  have w2 := hw.2.1
  intro m
  induction m with
  | zero =>
    intro d hd rest
    induction rest with
    | nil =>
      intro f f0 M L c cnt v hf hR hT h10 wL hA h157 hRS hc h154 hQ
      rw [List.length_nil] at hf
      have hfb : 1 ≤ fB 0 := Nat.le_refl 1
      obtain ⟨f, rfl⟩ : ∃ k, f = k + 1 := ⟨f - 1, by rw [Nat.zero_add, Nat.one_mul] at hf; omega⟩
      have hcd : (J (d : Int)).toNatClampNeg = d := by rw [J_clamp (by omega) (by omega), Int.toNat_natCast]
      rw [f_X12_rowsOf_62, wp_ite_f (by rw [show (0 : Int32) = J 0 from rfl, J_lt (by omega) (by omega) (by omega) (by omega)]; omega), wp_ck_t (GKk102 hG), MRf80 hR, wp_ck_t (GKk157 hG), wp_ck_t (by rw [GKl157 hG, J_toInt (by omega) (by omega)]; omega), hcd, h157, wp_bind]
      refine (r_nextPull hG hw wL hRS hc (show d < 4 by omega) hR hT hA).mono (fun x q => ?_)
      obtain ⟨q1, F1, A1⟩ := q
      have hR1 := hR.fr F1
      have hF2 : Fr WR M (rhsi x.2 157 d x.1) := (F1.sub (by decide)).si (by decide) _ _
      rw [MRf80 hR1, wp_ck_t (GKk157 hG), wp_ck_t (by rw [GKl157 hG, J_toInt (by omega) (by omega)]; omega)]
      dsimp only
      have e57 : (rhsi x.2 157 d x.1).1 157 d = x.1 := by rw [si_1, if_pos ⟨rfl, rfl⟩]
      rw [e57, q1, hdC, wp_ite_t (by decide), show (-1 : Int32) = J (-1) from rfl, J_add]
      have := hQ f (rhsi x.2 157 d (J (-1))) (by rw [Nat.zero_add, Nat.one_mul] at hf; omega) (PR_nil (by rw [q1, hdC] at hF2; exact hF2) (fun j hj => by rw [si_1, if_neg (by omega), F1.i (by decide)]) (fun j hj => by rw [si_1, if_neg (by omega), F1.i (by decide)]) (fun j hj => by rw [si_1, if_neg (by omega), F1.i (by decide)]) (fun h hh => by rw [si_1, if_neg (by omega), F1.i (by decide)]; exact h154 h hh))
      exact this
    | cons a rest ihr =>
      intro f f0 M L c cnt v hf hR hT h10 wL hA h157 hRS hc h154 hQ
      rw [List.length_cons, Nat.add_mul, Nat.one_mul] at hf
      have hfb : 1 ≤ fB 0 := Nat.le_refl 1
      obtain ⟨f, rfl⟩ : ∃ k, f = k + 1 := ⟨f - 1, by omega⟩
      have hcd : (J (d : Int)).toNatClampNeg = d := by rw [J_clamp (by omega) (by omega), Int.toNat_natCast]
      have ham := (hRS.2.1 a List.mem_cons_self).1
      have hok := pulls_ok ham
      have wm := pulls_WA wL ham
      have h5 := (dec_cd hw wL ham).2
      have hl' := wL.rl_len hok.1.1
      have d1 : a.1 ≤ 9 := by have := hok.1.1; omega
      have d2 : a.2.1 ≤ 9 := by have := hok.1.2.2.2.2; omega
      have d3 : a.2.2 ≤ 9 := by have := hok.1.2.1; omega
      rw [f_X12_rowsOf_62, wp_ite_f (by rw [show (0 : Int32) = J 0 from rfl, J_lt (by omega) (by omega) (by omega) (by omega)]; omega), wp_ck_t (GKk102 hG), MRf80 hR, wp_ck_t (GKk157 hG), wp_ck_t (by rw [GKl157 hG, J_toInt (by omega) (by omega)]; omega), hcd, h157, wp_bind]
      refine (r_nextPull hG hw wL hRS hc (show d < 4 by omega) hR hT hA).mono (fun x q => ?_)
      obtain ⟨q1, F1, A1⟩ := q
      have hR1 := hR.fr F1
      rw [MRf80 hR1, wp_ck_t (GKk157 hG), wp_ck_t (by rw [GKl157 hG, J_toInt (by omega) (by omega)]; omega)]
      dsimp only
      have e57 : (rhsi x.2 157 d x.1).1 157 d = x.1 := by rw [si_1, if_pos ⟨rfl, rfl⟩]
      rw [e57, q1, hdC, wp_ite_f (by rw [show (0 : Int32) = J 0 from rfl, J_lt (by omega) (by omega) (by omega) (by omega)]; omega), cd_f d1 d2 d3, cd_m d1 d2 d3, cd_t d1 d2 d3, wp_bind]
      have hF2 : Fr [127, 128, 129, 157] M (rhsi x.2 157 d (J (cdT a))) := (F1.sub (by decide)).si (by decide) _ _
      have hA2 : RA (rhsi x.2 157 d (J (cdT a))) 128 0 129 0 L := A1.fr (W := [157]) ((Fr.refl _ _).si (by simp) _ _) (by decide) (by decide)
      have v57 : (rhsi x.2 157 d (J (cdT a))).1 157 d = J (cdT a) := by rw [si_1, if_pos ⟨rfl, rfl⟩]
      have v57' : ∀ j, j ≠ d → (rhsi x.2 157 d (J (cdT a))).1 157 j = M.1 157 j := fun j hj => by rw [si_1, if_neg (by omega), F1.i (by decide)]
      obtain ⟨M2, hM2⟩ : ∃ N, N = rhsi x.2 157 d (J (cdT a)) := ⟨_, rfl⟩
      rw [← hM2] at hF2 hA2 v57 v57' ⊢
      have hR2 := hR.fr hF2
      refine (m_moves hG hR2 w1 w2 hA2 wL hok.1.1 hok.1.2.1 hok.1.2.2.1 hok.1.2.2.2.1 hok.1.2.2.2.2).mono (fun M3 q3 => ?_)
      obtain ⟨F3, A3'⟩ := q3
      have A3 : RA M3 128 0 129 0 (mvA L a) := A3'
      have hF13 : Fr [127, 128, 129, 130, 157] M M3 := (hF2.sub (by decide)).trans (F3.sub (by decide))
      have hR3 := hR.fr hF13
      have h103 := h10.frS hF13 (by decide)
      have hT3 := hT.fr hF13 (by rw [hF13.i (by decide)]) (by rw [hF13.i (by decide)]) (by rw [hF13.i (by decide)]) (by decide)
      rw [show (1 : Int32) = J 1 from rfl, J_add, J_suc, r_isSo hG hR3 hw A3 wm h103 hSg (show d + 1 ≤ 3 by omega) (show d + 1 ≤ n by omega) k1 k2, wp_bind, wp_some]
      have v57b : M3.1 157 d = J (cdT a) := by rw [F3.i (by decide)]; exact v57
      have hA3 : RA M3 155 (8 * d) 156 (6 * d) L := hA.fr hF13 (by decide) (by decide)
      have hPR3 : PR T d M M3 v [] := PR_nil (hF13.sub (by decide)) (fun j hj => by rw [hF13.i (by decide)]) (fun j hj => by rw [hF13.i (by decide)]) (fun j hj => by rw [F3.i (by decide), v57' j (by omega)]) (fun h hh => by rw [hF13.i (by decide)]; exact h154 h hh)
      rw [List.flatMap_cons] at hQ
      by_cases c1 : soS sg (kset sg n k) (d + 1) (mvA L a)
      · rw [bi_t c1, wp_ite_f (by decide), wp_ite_t (by rw [show d + 1 = n by omega]), wp_bind, f_X12_meets]
        have hwk : wk T sg (kset sg n k) 0 (d + 1) (mvA L a) = [mvA L a] := by rw [wk, pick_t c1]
        rw [hwk] at hQ
        have v54 : ∀ h, h < tH T → M3.1 154 h = J ((if h < 0 then v h ||| 2 ^ rlO (mvA L a) h else v h : Nat) : Int) := fun h hh => by rw [if_neg (by omega), hF13.i (by decide)]; exact h154 h hh
        refine (r_meets hG hw wm v (tH T) rhFU M3 0 (by omega) (by have := FU_big; omega) hR3 hT3 A3 v54).mono (fun y q4 => ?_)
        obtain ⟨y1, y2, y3⟩ := q4
        have hPR4 : PR T d M y.2 v [mvA L a] := ⟨(hF13.sub (by decide)).trans (y2.sub (by decide)), fun j hj => by rw [y2.i (by decide), hF13.i (by decide)], fun j hj => by rw [y2.i (by decide), hF13.i (by decide)], fun j hj => by rw [y2.i (by decide), F3.i (by decide), v57' j (by omega)], fun h hh => by
          rw [y3 h hh]; show _ = J ((v h ||| (0 ||| 2 ^ rlO (mvA L a) h) : Nat) : Int); rw [Nat.zero_or]⟩
        rw [y1, show (1 : Int32) = J 1 from rfl, J_add, J_suc]
        refine ihr f f0 y.2 L (cdT a) (cnt + 1) (fun h => v h ||| mskV [mvA L a] h) (by omega) (hR3.fr y2) (hT3.fr y2 (by rw [y2.i (by decide)]) (by rw [y2.i (by decide)]) (by rw [y2.i (by decide)]) (by decide)) (h103.frS y2 (by decide)) wL (hA3.fr y2 (by decide) (by decide)) (by rw [y2.i (by decide)]; exact v57b) (RS_next hRS) ⟨by omega, by omega⟩ hPR4.2.2.2.2 (fun f' M' hf' hP => ?_)
        have := hQ f' M' hf' (PR_then hPR4 hP)
        rw [List.length_append, List.length_singleton] at this
        rw [show cnt + 1 + (rest.flatMap fun a => wk T sg (kset sg n k) 0 (d + 1) (mvA L a)).length = cnt + (1 + (rest.flatMap fun a => wk T sg (kset sg n k) 0 (d + 1) (mvA L a)).length) by omega]
        exact this
      · have hwk : wk T sg (kset sg n k) 0 (d + 1) (mvA L a) = [] := by rw [wk, pick_f c1]
        rw [hwk] at hQ
        rw [bi_f c1, wp_ite_t rfl]
        refine ihr f f0 M3 L (cdT a) cnt v (by omega) hR3 hT3 h103 wL hA3 v57b (RS_next hRS) ⟨by omega, by omega⟩ (fun h hh => by rw [hF13.i (by decide)]; exact h154 h hh) (fun f' M' hf' hP => ?_)
        exact hQ f' M' hf' (PR_then hPR3 (by
          obtain ⟨p1, p2, p3, p4, p5⟩ := hP
          exact ⟨p1, p2, p3, p4, fun h hh => by rw [p5 h hh]; show _ = J ((v h ||| 0 ||| _ : Nat) : Int); rw [Nat.or_zero]⟩))
  | succ m ih =>
    intro d hd rest
    have hfb : 1 ≤ fB (m + 1) := by rw [fB]; omega
    induction rest with
    | nil =>
      intro f f0 M L c cnt v hf hR hT h10 wL hA h157 hRS hc h154 hQ
      rw [List.length_nil, Nat.zero_add, Nat.one_mul] at hf
      obtain ⟨f, rfl⟩ : ∃ k, f = k + 1 := ⟨f - 1, by omega⟩
      have hcd : (J (d : Int)).toNatClampNeg = d := by rw [J_clamp (by omega) (by omega), Int.toNat_natCast]
      rw [f_X12_rowsOf_62, wp_ite_f (by rw [show (0 : Int32) = J 0 from rfl, J_lt (by omega) (by omega) (by omega) (by omega)]; omega), wp_ck_t (GKk102 hG), MRf80 hR, wp_ck_t (GKk157 hG), wp_ck_t (by rw [GKl157 hG, J_toInt (by omega) (by omega)]; omega), hcd, h157, wp_bind]
      refine (r_nextPull hG hw wL hRS hc (show d < 4 by omega) hR hT hA).mono (fun x q => ?_)
      obtain ⟨q1, F1, A1⟩ := q
      have hR1 := hR.fr F1
      have hF2 : Fr WR M (rhsi x.2 157 d x.1) := (F1.sub (by decide)).si (by decide) _ _
      rw [MRf80 hR1, wp_ck_t (GKk157 hG), wp_ck_t (by rw [GKl157 hG, J_toInt (by omega) (by omega)]; omega)]
      dsimp only
      have e57 : (rhsi x.2 157 d x.1).1 157 d = x.1 := by rw [si_1, if_pos ⟨rfl, rfl⟩]
      rw [e57, q1, hdC, wp_ite_t (by decide), show (-1 : Int32) = J (-1) from rfl, J_add]
      have := hQ f (rhsi x.2 157 d (J (-1))) (by omega) (PR_nil (by rw [q1, hdC] at hF2; exact hF2) (fun j hj => by rw [si_1, if_neg (by omega), F1.i (by decide)]) (fun j hj => by rw [si_1, if_neg (by omega), F1.i (by decide)]) (fun j hj => by rw [si_1, if_neg (by omega), F1.i (by decide)]) (fun h hh => by rw [si_1, if_neg (by omega), F1.i (by decide)]; exact h154 h hh))
      exact this
    | cons a rest ihr =>
      intro f f0 M L c cnt v hf hR hT h10 wL hA h157 hRS hc h154 hQ
      rw [List.length_cons, Nat.add_mul, Nat.one_mul] at hf
      obtain ⟨f, rfl⟩ : ∃ k, f = k + 1 := ⟨f - 1, by omega⟩
      have hcd : (J (d : Int)).toNatClampNeg = d := by rw [J_clamp (by omega) (by omega), Int.toNat_natCast]
      have hcd1 : (J ((d + 1 : Nat) : Int)).toNatClampNeg = d + 1 := by rw [J_clamp (by omega) (by omega), Int.toNat_natCast]
      have ham := (hRS.2.1 a List.mem_cons_self).1
      have hok := pulls_ok ham
      have wm := pulls_WA wL ham
      have h5 := (dec_cd hw wL ham).2
      have hl' := wL.rl_len hok.1.1
      have d1 : a.1 ≤ 9 := by have := hok.1.1; omega
      have d2 : a.2.1 ≤ 9 := by have := hok.1.2.2.2.2; omega
      have d3 : a.2.2 ≤ 9 := by have := hok.1.2.1; omega
      rw [f_X12_rowsOf_62, wp_ite_f (by rw [show (0 : Int32) = J 0 from rfl, J_lt (by omega) (by omega) (by omega) (by omega)]; omega), wp_ck_t (GKk102 hG), MRf80 hR, wp_ck_t (GKk157 hG), wp_ck_t (by rw [GKl157 hG, J_toInt (by omega) (by omega)]; omega), hcd, h157, wp_bind]
      refine (r_nextPull hG hw wL hRS hc (show d < 4 by omega) hR hT hA).mono (fun x q => ?_)
      obtain ⟨q1, F1, A1⟩ := q
      have hR1 := hR.fr F1
      rw [MRf80 hR1, wp_ck_t (GKk157 hG), wp_ck_t (by rw [GKl157 hG, J_toInt (by omega) (by omega)]; omega)]
      dsimp only
      have e57 : (rhsi x.2 157 d x.1).1 157 d = x.1 := by rw [si_1, if_pos ⟨rfl, rfl⟩]
      rw [e57, q1, hdC, wp_ite_f (by rw [show (0 : Int32) = J 0 from rfl, J_lt (by omega) (by omega) (by omega) (by omega)]; omega), cd_f d1 d2 d3, cd_m d1 d2 d3, cd_t d1 d2 d3, wp_bind]
      have hF2 : Fr [127, 128, 129, 157] M (rhsi x.2 157 d (J (cdT a))) := (F1.sub (by decide)).si (by decide) _ _
      have hA2 : RA (rhsi x.2 157 d (J (cdT a))) 128 0 129 0 L := A1.fr (W := [157]) ((Fr.refl _ _).si (by simp) _ _) (by decide) (by decide)
      have v57 : (rhsi x.2 157 d (J (cdT a))).1 157 d = J (cdT a) := by rw [si_1, if_pos ⟨rfl, rfl⟩]
      have v57' : ∀ j, j ≠ d → (rhsi x.2 157 d (J (cdT a))).1 157 j = M.1 157 j := fun j hj => by rw [si_1, if_neg (by omega), F1.i (by decide)]
      obtain ⟨M2, hM2⟩ : ∃ N, N = rhsi x.2 157 d (J (cdT a)) := ⟨_, rfl⟩
      rw [← hM2] at hF2 hA2 v57 v57' ⊢
      have hR2 := hR.fr hF2
      refine (m_moves hG hR2 w1 w2 hA2 wL hok.1.1 hok.1.2.1 hok.1.2.2.1 hok.1.2.2.2.1 hok.1.2.2.2.2).mono (fun M3 q3 => ?_)
      obtain ⟨F3, A3'⟩ := q3
      have A3 : RA M3 128 0 129 0 (mvA L a) := A3'
      have hF13 : Fr [127, 128, 129, 130, 157] M M3 := (hF2.sub (by decide)).trans (F3.sub (by decide))
      have hR3 := hR.fr hF13
      have h103 := h10.frS hF13 (by decide)
      have hT3 := hT.fr hF13 (by rw [hF13.i (by decide)]) (by rw [hF13.i (by decide)]) (by rw [hF13.i (by decide)]) (by decide)
      rw [show (1 : Int32) = J 1 from rfl, J_add, J_suc, r_isSo hG hR3 hw A3 wm h103 hSg (show d + 1 ≤ 3 by omega) (show d + 1 ≤ n by omega) k1 k2, wp_bind, wp_some]
      have v57b : M3.1 157 d = J (cdT a) := by rw [F3.i (by decide)]; exact v57
      have hA3 : RA M3 155 (8 * d) 156 (6 * d) L := hA.fr hF13 (by decide) (by decide)
      have hPR3 : PR T d M M3 v [] := PR_nil (hF13.sub (by decide)) (fun j hj => by rw [hF13.i (by decide)]) (fun j hj => by rw [hF13.i (by decide)]) (fun j hj => by rw [F3.i (by decide), v57' j (by omega)]) (fun h hh => by rw [hF13.i (by decide)]; exact h154 h hh)
      rw [List.flatMap_cons] at hQ
      by_cases c1 : soS sg (kset sg n k) (d + 1) (mvA L a)
      · have hwk : wk T sg (kset sg n k) (m + 1) (d + 1) (mvA L a) = (pulls T (mvA L a)).flatMap fun a' => wk T sg (kset sg n k) m (d + 1 + 1) (mvA (mvA L a) a') := by rw [wk, pick_t c1]
        rw [bi_t c1, wp_ite_f (by decide), wp_ite_f (by rw [J_eq (by omega) (by omega) (by omega) (by omega)]; omega), wp_bind]
        refine (r_keepT hG hR3 A3 (by rw [wm.len]; exact w2) (by rw [wm.1]; exact w1) (show d + 1 < 4 by omega)).mono (fun M4 q4 => ?_)
        obtain ⟨F4, A4, e5, e6⟩ := q4
        have hR4 := hR3.fr F4
        rw [MRf80 hR4, wp_ck_t (GKk157 hG), wp_ck_t (by rw [GKl157 hG, J_toInt (by omega) (by omega)]; omega), hcd1]
        have hF5 : Fr [157] M4 (rhsi M4 157 (d + 1) (J (-1))) := (Fr.refl _ _).si (by simp) _ _
        have u57 : (rhsi M4 157 (d + 1) (J (-1))).1 157 (d + 1) = J (-1) := by rw [si_1, if_pos ⟨rfl, rfl⟩]
        have u57' : ∀ j, j ≠ d + 1 → (rhsi M4 157 (d + 1) (J (-1))).1 157 j = M3.1 157 j := fun j hj => by rw [si_1, if_neg (by omega), F4.i (by decide)]
        rw [show (-J 1 : Int32) = J (-1) from rfl]
        obtain ⟨M5, hM5⟩ : ∃ N, N = rhsi M4 157 (d + 1) (J (-1)) := ⟨_, rfl⟩
        rw [← hM5] at hF5 u57 u57' ⊢
        have hF35 : Fr [155, 156, 157] M3 M5 := (F4.sub (by decide)).trans (hF5.sub (by decide))
        have hR5 := hR3.fr hF35
        have hT5 := hT3.fr hF35 (by rw [hF35.i (by decide)]) (by rw [hF35.i (by decide)]) (by rw [hF35.i (by decide)]) (by decide)
        have h105 := h103.frS hF35 (by decide)
        have hA5 : RA M5 155 (8 * (d + 1)) 156 (6 * (d + 1)) (mvA L a) := A4.fr hF5 (by decide) (by decide)
        have hpl := pulls_len w1 w2 wm
        have h155 : ∀ j, j < 8 * (d + 1) → M5.1 155 j = M.1 155 j := fun j hj => by rw [hF5.i (by decide), e5 j hj, hF13.i (by decide)]
        have h156 : ∀ j, j < 6 * (d + 1) → M5.1 156 j = M.1 156 j := fun j hj => by rw [hF5.i (by decide), e6 j hj, hF13.i (by decide)]
        have hPR5 : PR T d M M5 v [] := PR_nil ((hF13.sub (by decide)).trans (hF35.sub (by decide))) (fun j hj => h155 j (by omega)) (fun j hj => h156 j (by omega)) (fun j hj => by rw [u57' j (by omega), F3.i (by decide), v57' j (by omega)]) (fun h hh => by rw [hF35.i (by decide), hF13.i (by decide)]; exact h154 h hh)
        have hfB : fB (m + 1) = 1 + 33 * fB m := rfl
        have hmul : ((pulls T (mvA L a)).length + 1) * fB m ≤ 33 * fB m := Nat.mul_le_mul (by omega) (Nat.le_refl _)
        have hm2 : (rest.length + 1) * fB (m + 1) = rest.length * fB (m + 1) + fB (m + 1) := by rw [Nat.add_mul, Nat.one_mul]
        refine ih (d + 1) (by omega) (pulls T (mvA L a)) f (f0 + (rest.length + 1) * fB (m + 1)) M5 (mvA L a) (-1) cnt v (by omega) hR5 hT5 h105 wm hA5 u57 (RS_all hw wm) ⟨by omega, by omega⟩ (fun h hh => by rw [hF35.i (by decide), hF13.i (by decide)]; exact h154 h hh) (fun f' M' hf' hP => ?_)
        rw [← hwk] at hP ⊢
        have hPRx : PR T d M M' v ([] ++ wk T sg (kset sg n k) (m + 1) (d + 1) (mvA L a)) := PR_then hPR5 (by
          obtain ⟨p1, p2, p3, p4, p5⟩ := PR_low hP (show d ≤ d + 1 by omega)
          exact ⟨p1, p2, p3, p4, fun h hh => by rw [p5 h hh]; show _ = J ((v h ||| 0 ||| _ : Nat) : Int); rw [Nat.or_zero]⟩)
        rw [List.nil_append] at hPRx
        have hFx := hP.1
        have b1 : M'.1 157 d = J (cdT a) := by rw [hP.2.2.2.1 d (by omega), u57' d (by omega)]; exact v57b
        have hA6 : RA M' 155 (8 * d) 156 (6 * d) L := RA_low hA (by rw [wL.len]; exact w2) (by rw [wL.1]; exact w1) (fun j hj => by rw [hP.2.1 j hj]; exact h155 j hj) (fun j hj => by rw [hP.2.2.1 j hj]; exact h156 j hj)
        rw [show ((d + 1 : Nat) : Int) - 1 = d by omega]
        refine ihr f' f0 M' L (cdT a) _ (fun h => v h ||| mskV (wk T sg (kset sg n k) (m + 1) (d + 1) (mvA L a)) h) hf' (hR5.fr hFx) (hT5.fr hFx (by rw [hFx.i (by decide)]) (by rw [hFx.i (by decide)]) (by rw [hFx.i (by decide)]) (by decide)) (h105.frS hFx (by decide)) wL hA6 b1 (RS_next hRS) ⟨by omega, by omega⟩ hPRx.2.2.2.2 (fun f'' M'' hf'' hP2 => ?_)
        have := hQ f'' M'' hf'' (PR_then hPRx hP2)
        rw [List.length_append, ← Nat.add_assoc] at this
        exact this
      · have hwk : wk T sg (kset sg n k) (m + 1) (d + 1) (mvA L a) = [] := by rw [wk, pick_f c1]
        rw [hwk] at hQ
        rw [bi_f c1, wp_ite_t rfl]
        refine ihr f f0 M3 L (cdT a) cnt v (by omega) hR3 hT3 h103 wL hA3 v57b (RS_next hRS) ⟨by omega, by omega⟩ (fun h hh => by rw [hF13.i (by decide)]; exact h154 h hh) (fun f' M' hf' hP => ?_)
        exact hQ f' M' hf' (PR_then hPR3 (by
          obtain ⟨p1, p2, p3, p4, p5⟩ := hP
          exact ⟨p1, p2, p3, p4, fun h hh => by rw [p5 h hh]; show _ = J ((v h ||| 0 ||| _ : Nat) : Int); rw [Nat.or_zero]⟩))
theorem r_zero (hG : GK Γ) (K : rhM → Nat → Int32 → Int32 → Option (Int32 × rhM)) (Q : Int32 × rhM → Prop) (x y : Int32) : ∀ (d f : Nat) (M : rhM) (i : Nat), MR M → i + d = 8 → d < f → (∀ j, j < i → M.1 154 j = 0) → (∀ M', Fr [154] M M' → (∀ j, j < 8 → M'.1 154 j = 0) → wp (K M' 102 x y) Q) → wp (f_X12_rowsOf_2 K Γ f M 102 x y (J i)) Q := by
  intro d
  induction d with
  | zero =>
    intro f M i hR hi hf h hQ
    obtain ⟨f, rfl⟩ : ∃ k, f = k + 1 := ⟨f - 1, by omega⟩
    rw [f_X12_rowsOf_2, wp_ite_f (by rw [show (8 : Int32) = J 8 from rfl, J_lt (by omega) (by omega) (by omega) (by omega)]; omega)]
    exact hQ M (Fr.refl _ _) (fun j hj => h j (by omega))
  | succ d ih =>
    intro f M i hR hi hf h hQ
    obtain ⟨f, rfl⟩ : ∃ k, f = k + 1 := ⟨f - 1, by omega⟩
    rw [f_X12_rowsOf_2, wp_ite_t (by rw [show (8 : Int32) = J 8 from rfl, J_lt (by omega) (by omega) (by omega) (by omega)]; omega), wp_ck_t (GKk102 hG), MRf77 hR, wp_ck_t (GKk154 hG), wp_ck_t (by rw [GKl154 hG, J_toInt (by omega) (by omega)]; omega), J_clamp (by omega) (by omega), Int.toNat_natCast]
    dsimp only
    rw [show (1 : Int32) = J 1 from rfl, J_add, J_suc]
    have hF : Fr [154] M (rhsi M 154 i 0) := (Fr.refl _ _).si (by simp) _ _
    refine ih f _ (i + 1) (hR.fr hF) (by omega) (by omega) (fun j hj => ?_) (fun M' h1 h2 => hQ M' (hF.trans h1) h2)
    rw [si_1]
    by_cases e : j = i
    · rw [if_pos ⟨rfl, e⟩]
    · rw [if_neg (by omega)]; exact h j (by omega)
theorem WR_kp {M M' : rhM} (h : Fr WR M M') : KP [0] M M' ∧ KR M M' := ⟨KP.fr h (by decide), KR.fr h (by decide)⟩
theorem r_rows (hG : GK Γ) {M : rhM} (hR : MR M) (h3 : R3 M T) (hw : TWf T) (hRH : 0 < tH T → 0 < tR T) {sg : List Si} (h10 : R10 M sg) (hSg : SgW T sg) {n : Nat} (hn3 : n ≤ 3) {k : Int} (k1 : -2147483648 ≤ k) (k2 : k < 2147483648) : wp (f_X12_rowsOf Γ M 102 (J n) (J k)) (fun x => x.1 = J (wkV T sg n k).length ∧ KP [0] M x.2 ∧ KR M x.2 ∧ ∀ h, h < tH T → x.2.1 154 h = J (mskV (wkV T sg n k) h)) := by
  have w1 := hw.1
  have w2 := hw.2.1
  obtain ⟨b, lb, hT⟩ := h3
  have wF := fst_WA T hw
  rw [f_X12_rowsOf]
  refine r_zero hG _ _ _ _ 8 rhFU M 0 hR (by omega) (by have := FU_big; omega) (fun j hj => by omega) (fun M1 F1 hz => ?_)
  have hT1 := hT.fr F1 (by rw [F1.i (by decide)]) (by rw [F1.i (by decide)]) (by rw [F1.i (by decide)]) (by decide)
  have hR1 := hR.fr F1
  rw [f_X12_rowsOf_21, wp_ck_t (GKk102 hG), wp_bind]
  refine (m_layFirst hG hR1 hT1 hw).mono (fun M2 q => ?_)
  obtain ⟨F2, A2⟩ := q
  have hR2 := hR1.fr F2
  rw [wp_bind, show (0 : Int32) = J ((0 : Nat) : Int) from rfl]
  refine (r_keepT hG hR2 A2 (by rw [wF.len]; exact w2) (by rw [wF.1]; exact w1) (show 0 < 4 by omega)).mono (fun M3 q => ?_)
  obtain ⟨F3, A3, -, -⟩ := q
  have hR3 := hR2.fr F3
  have F13 : Fr [128, 129, 154, 155, 156] M M3 := ((F1.sub (by decide)).trans (F2.sub (by decide))).trans (F3.sub (by decide))
  have hT3 := hT.fr F13 (by rw [F13.i (by decide)]) (by rw [F13.i (by decide)]) (by rw [F13.i (by decide)]) (by decide)
  have h103 := h10.frS F13 (by decide)
  have A23 : RA M3 128 0 129 0 (fst T) := A2.fr F3 (by decide) (by decide)
  have F13' : Fr WR M M3 := F13.sub (by decide)
  have z3 : ∀ j, j < 8 → M3.1 154 j = 0 := fun j hj => by rw [F3.i (by decide), F2.i (by decide)]; exact hz j hj
  rw [r_isSo hG hR3 hw A23 wF h103 hSg (show 0 ≤ 3 by omega) (show 0 ≤ n by omega) k1 k2, wp_bind, wp_some]
  unfold wkV
  by_cases c1 : soS sg (kset sg n k) 0 (fst T)
  · rw [bi_t c1, wp_ite_f (by decide)]
    by_cases c2 : n = 0
    · subst c2
      have hwk : wk T sg (kset sg 0 k) 0 0 (fst T) = [fst T] := by rw [wk, pick_t c1]
      rw [hwk, wp_ite_t rfl, wp_bind, f_X12_meets]
      refine (r_meets hG hw wF (fun _ => 0) (tH T) rhFU M3 0 (by omega) (by have := FU_big; omega) hR3 hT3 A23 (fun h hh => by rw [z3 h (by omega)]; rfl)).mono (fun y q => ?_)
      obtain ⟨y1, y2, y3⟩ := q
      obtain ⟨kp, kr⟩ := WR_kp (F13'.trans (y2.sub (show ∀ r, r ∈ [154] → r ∈ WR by decide)))
      rw [wp_some]
      exact ⟨y1, kp, kr, y3⟩
    · obtain ⟨m, rfl⟩ : ∃ m, n = m + 1 := ⟨n - 1, by omega⟩
      have hwk : wk T sg (kset sg (m + 1) k) (m + 1) 0 (fst T) = (pulls T (fst T)).flatMap fun a => wk T sg (kset sg (m + 1) k) m (0 + 1) (mvA (fst T) a) := by rw [wk, pick_t c1]
      rw [wp_ite_f (by rw [J_eq (by omega) (by omega) (by omega) (by omega)]; omega), MRf80 hR3, wp_ck_t (GKk157 hG), wp_ck_t (by rw [GKl157 hG]; decide)]
      dsimp only
      rw [show (J ((0 : Nat) : Int)).toNatClampNeg = 0 from rfl]
      have hF4 : Fr [157] M3 (rhsi M3 157 0 (-1)) := (Fr.refl _ _).si (by simp) _ _
      have hpl := pulls_len w1 w2 wF
      have hfu : 1 + ((pulls T (fst T)).length + 1) * fB m ≤ rhFU := by
        have h1 : fB m ≤ 1123 := by rcases (show m = 0 ∨ m = 1 ∨ m = 2 by omega) with rfl | rfl | rfl <;> decide
        have h2 : ((pulls T (fst T)).length + 1) * fB m ≤ 33 * 1123 := Nat.mul_le_mul (by omega) h1
        have := FU_big; omega
      refine r_walk hG hw hSg hn3 k1 k2 _ m 0 (by omega) (pulls T (fst T)) rhFU 1 _ (fst T) (-1) 0 (fun _ => 0) hfu (hR3.fr hF4) (hT3.fr hF4 (by rw [hF4.i (by decide)]) (by rw [hF4.i (by decide)]) (by rw [hF4.i (by decide)]) (by decide)) (h103.frS hF4 (by decide)) wF (A3.fr hF4 (by decide) (by decide)) (by rw [si_1, if_pos ⟨rfl, rfl⟩]; rfl) (RS_all hw wF) ⟨by omega, by omega⟩ (fun h hh => by rw [si_1, if_neg (by omega), z3 h (by omega)]; rfl) (fun f' M' hf' hP => ?_)
      obtain ⟨f', rfl⟩ : ∃ k, f' = k + 1 := ⟨f' - 1, by omega⟩
      rw [← hwk] at hP ⊢
      rw [f_X12_rowsOf_62, wp_ite_t (by decide), wp_some]
      obtain ⟨kp, kr⟩ := WR_kp ((F13'.trans (hF4.sub (show ∀ r, r ∈ [157] → r ∈ WR by decide))).trans hP.1)
      refine ⟨by dsimp only; rw [Nat.zero_add], kp, kr, fun h hh => ?_⟩
      have := hP.2.2.2.2 h hh
      rw [Nat.zero_or] at this
      exact this
  · have hwk : wk T sg (kset sg n k) n 0 (fst T) = [] := by
      cases n with
      | zero => rw [wk, pick_f c1]
      | succ n => rw [wk, pick_f c1]
    rw [hwk, bi_f c1, wp_ite_t (show (0 : Int32) = J ((0 : Nat) : Int) from rfl), wp_some]
    obtain ⟨kp, kr⟩ := WR_kp F13'
    exact ⟨rfl, kp, kr, fun h hh => z3 h (by omega)⟩
theorem r_fits (hG : GK Γ) {M : rhM} (hR : MR M) (h3 : R3 M T) (hw : TWf T) (hRH : 0 < tH T → 0 < tR T) {sg : List Si} (h10 : R10 M sg) (hSg : SgW T sg) {n : Int} (n1 : -2147483648 ≤ n) (n2 : n < 2147483648) {k : Int} (k1 : -2147483648 ≤ k) (k2 : k < 2147483648) : wp (f_X12_fits Γ M 102 (J n) (J k)) (fun x => x.1 = J (fitV T sg n k) ∧ KP [0] M x.2 ∧ KR M x.2) := by
  unfold fitV
  rw [f_X12_fits, show (0 : Int32) = J 0 from rfl, show (3 : Int32) = J 3 from rfl, m_isInJ n1 n2 (by omega) (by omega) (by omega) (by omega), wp_bind, wp_some]
  by_cases c : ¬ (0 ≤ n ∧ n ≤ 3)
  · rw [bi_f c, wp_ite_t (show (0 : Int32) = J 0 from rfl), wp_some, if_neg c]
    exact ⟨rfl, KP.refl _ _, KR.refl _⟩
  have c := Classical.not_not.mp c
  obtain ⟨m, rfl⟩ : ∃ m : Nat, n = m := ⟨n.toNat, by omega⟩
  rw [bi_t c, wp_ite_f (by decide), wp_ck_t (GKk102 hG), if_pos c, Int.toNat_natCast, wp_bind]
  refine (r_rows hG hR h3 hw hRH h10 hSg (show m ≤ 3 by omega) k1 k2).mono (fun x q => ?_)
  rw [wp_some]
  exact ⟨q.1, q.2.1, q.2.2.1⟩
theorem r_canQ (hG : GK Γ) {M : rhM} (hR : MR M) (h3 : R3 M T) (hw : TWf T) (hRH : 0 < tH T → 0 < tR T) {sg : List Si} (h10 : R10 M sg) (hSg : SgW T sg) {h : Int} (h1 : -2147483648 ≤ h) (h2 : h < 2147483648) {n : Int} (n1 : -2147483648 ≤ n) (n2 : n < 2147483648) {k : Int} (k1 : -2147483648 ≤ k) (k2 : k < 2147483648) : wp (f_X12_can Γ M 102 (J h) (J n) (J k)) (fun x => x.1 = J (canV T sg h n k) ∧ KP [0] M x.2 ∧ KR M x.2) := by
  have w2 := hw.2.1
  obtain ⟨b, lb, hT⟩ := id h3
  unfold canV
  rw [f_X12_can, wp_ck_t (GKk102 hG), m_isHouseJ hG hR hT hw h1 h2, wp_bind, wp_some]
  by_cases c0 : ¬ (0 ≤ h ∧ h < tH T)
  · rw [bi_f c0, wp_ite_t rfl, wp_some, if_neg (by omega)]
    exact ⟨rfl, KP.refl _ _, KR.refl _⟩
  have c0 := Classical.not_not.mp c0
  rw [bi_t c0, wp_ite_f (by decide), show (0 : Int32) = J 0 from rfl, show (3 : Int32) = J 3 from rfl, m_isInJ n1 n2 (by omega) (by omega) (by omega) (by omega), wp_bind, wp_some]
  by_cases c : ¬ (0 ≤ n ∧ n ≤ 3)
  · rw [bi_f c, wp_ite_t (show (0 : Int32) = J 0 from rfl), wp_some, if_neg (by omega)]
    exact ⟨rfl, KP.refl _ _, KR.refl _⟩
  have c := Classical.not_not.mp c
  obtain ⟨m, rfl⟩ : ∃ m : Nat, n = m := ⟨n.toNat, by omega⟩
  obtain ⟨q, rfl⟩ : ∃ q : Nat, h = q := ⟨h.toNat, by omega⟩
  rw [bi_t c, wp_ite_f (by decide), if_pos (by omega), Int.toNat_natCast, Int.toNat_natCast, wp_bind]
  refine (r_rows hG hR h3 hw hRH h10 hSg (show m ≤ 3 by omega) k1 k2).mono (fun x y => ?_)
  obtain ⟨y1, y2, y3, y4⟩ := y
  have hR' := hR.kp y2 (by decide)
  rw [MRf77 hR', wp_ck_t (GKk154 hG), wp_ck_t (by rw [GKl154 hG, J_toInt (by omega) (by omega)]; omega), J_clamp (by omega) (by omega), Int.toNat_natCast, wp_some, y4 q (by omega)]
  exact ⟨rfl, y2, y3⟩
end
