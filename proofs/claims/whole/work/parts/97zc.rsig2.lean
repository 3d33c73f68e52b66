/-! SIGHTS: THE REFERENCE GOES THROUGH ALL ROWS -/
section
variable {Γ : rhG} {T : Tn} {b : Nat} {g lb : Int}
theorem r_kt2 (hG : GK Γ) {k : Nat} (hk : k < 4) (K : rhM → Nat → Int32 → Option rhM) (Q : rhM → Prop) : ∀ (d n : Nat) (M : rhM) (j : Nat), MR M → j + d = 8 → d < n →
    (∀ M', Fr [155] M M' → (∀ x, M'.1 155 x = if 8 * k + j ≤ x ∧ x < 8 * k + 8 then M.1 128 (x - 8 * k) else M.1 155 x) → wp (K M' 102 (J k)) Q) → wp (f_X12_keepTried_2 K Γ n M 102 (J k) (J j)) Q := by
  intro d
  induction d with
  | zero =>
    intro n M j hR hj hn hQ
    obtain ⟨n, rfl⟩ : ∃ k, n = k + 1 := ⟨n - 1, by omega⟩
    rw [f_X12_keepTried_2, wp_ite_f (by rw [show (8 : Int32) = J 8 from rfl, J_lt (by omega) (by omega) (by omega) (by omega)]; omega)]
    exact hQ M (Fr.refl _ _) (fun x => by rw [if_neg (by omega)])
  | succ d ih =>
    intro n M j hR hj hn hQ
    obtain ⟨n, rfl⟩ : ∃ k, n = k + 1 := ⟨n - 1, by omega⟩
    rw [f_X12_keepTried_2, wp_ite_t (by rw [show (8 : Int32) = J 8 from rfl, J_lt (by omega) (by omega) (by omega) (by omega)]; omega), wp_ck_t (GKk102 hG), MRf39 hR, wp_ck_t (GKk128 hG), wp_ck_t (by rw [GKl128 hG, J_toInt (by omega) (by omega)]; omega), MRf78 hR, wp_ck_t (GKk155 hG), show (8 : Int32) = J 8 from rfl, J_mul, J_add, show 8 * (k : Int) + j = ((8 * k + j : Nat) : Int) by omega, wp_ck_t (by rw [GKl155 hG, J_toInt (by omega) (by omega)]; omega), J_clamp (a := ((8 * k + j : Nat) : Int)) (by omega) (by omega), J_clamp (a := (j : Int)) (by omega) (by omega), Int.toNat_natCast, Int.toNat_natCast]
    dsimp only
    rw [show (1 : Int32) = J 1 from rfl, J_add, J_suc]
    have hF : Fr [155] M (rhsi M 155 (8 * k + j) (M.1 128 j)) := (Fr.refl _ _).si (by simp) _ _
    refine ih n _ (j + 1) (hR.fr hF) (by omega) (by omega) (fun M' h1 h2 => hQ M' (hF.trans h1) (fun x => ?_))
    simp only [h2, si_1, Nat.reduceEqDiff, false_and, if_false, true_and]
    by_cases e : x = 8 * k + j
    · rw [if_neg (show ¬ (8 * k + (j + 1) ≤ x ∧ x < 8 * k + 8) by omega), if_pos e, if_pos (by omega), e, Nat.add_sub_cancel_left]
    · by_cases e2 : 8 * k + (j + 1) ≤ x ∧ x < 8 * k + 8
      · rw [if_pos e2, if_pos (by omega)]
      · rw [if_neg e2, if_neg e, if_neg (by omega)]
theorem r_kt33 (hG : GK Γ) {k : Nat} (hk : k < 4) (Q : rhM → Prop) : ∀ (d n : Nat) (M : rhM) (j : Nat), MR M → j + d = 5 → d < n →
    (∀ M', Fr [156] M M' → (∀ x, M'.1 156 x = if 6 * k + j ≤ x ∧ x < 6 * k + 5 then M.1 129 (x - 6 * k) else M.1 156 x) → Q M') → wp (f_X12_keepTried_33 Γ n M 102 (J k) (J j)) Q := by
  intro d
  induction d with
  | zero =>
    intro n M j hR hj hn hQ
    obtain ⟨n, rfl⟩ : ∃ k, n = k + 1 := ⟨n - 1, by omega⟩
    rw [f_X12_keepTried_33, wp_ite_f (by rw [show (5 : Int32) = J 5 from rfl, J_lt (by omega) (by omega) (by omega) (by omega)]; omega), wp_some]
    exact hQ M (Fr.refl _ _) (fun x => by rw [if_neg (by omega)])
  | succ d ih =>
    intro n M j hR hj hn hQ
    obtain ⟨n, rfl⟩ : ∃ k, n = k + 1 := ⟨n - 1, by omega⟩
    rw [f_X12_keepTried_33, wp_ite_t (by rw [show (5 : Int32) = J 5 from rfl, J_lt (by omega) (by omega) (by omega) (by omega)]; omega), wp_ck_t (GKk102 hG), MRf40 hR, wp_ck_t (GKk129 hG), wp_ck_t (by rw [GKl129 hG, J_toInt (by omega) (by omega)]; omega), MRf79 hR, wp_ck_t (GKk156 hG), show (6 : Int32) = J 6 from rfl, J_mul, J_add, show 6 * (k : Int) + j = ((6 * k + j : Nat) : Int) by omega, wp_ck_t (by rw [GKl156 hG, J_toInt (by omega) (by omega)]; omega), J_clamp (a := ((6 * k + j : Nat) : Int)) (by omega) (by omega), J_clamp (a := (j : Int)) (by omega) (by omega), Int.toNat_natCast, Int.toNat_natCast]
    dsimp only
    rw [show (1 : Int32) = J 1 from rfl, J_add, J_suc]
    have hF : Fr [156] M (rhsi M 156 (6 * k + j) (M.1 129 j)) := (Fr.refl _ _).si (by simp) _ _
    refine ih n _ (j + 1) (hR.fr hF) (by omega) (by omega) (fun M' h1 h2 => hQ M' (hF.trans h1) (fun x => ?_))
    simp only [h2, si_1, Nat.reduceEqDiff, false_and, if_false, true_and]
    by_cases e : x = 6 * k + j
    · rw [if_neg (show ¬ (6 * k + (j + 1) ≤ x ∧ x < 6 * k + 5) by omega), if_pos e, if_pos (by omega), e, Nat.add_sub_cancel_left]
    · by_cases e2 : 6 * k + (j + 1) ≤ x ∧ x < 6 * k + 5
      · rw [if_pos e2, if_pos (by omega)]
      · rw [if_neg e2, if_neg e, if_neg (by omega)]
theorem r_lt2 (hG : GK Γ) {k : Nat} (hk : k < 4) (K : rhM → Nat → Int32 → Option rhM) (Q : rhM → Prop) : ∀ (d n : Nat) (M : rhM) (j : Nat), MR M → j + d = 8 → d < n →
    (∀ M', Fr [128] M M' → (∀ x, M'.1 128 x = if j ≤ x ∧ x < 8 then M.1 155 (8 * k + x) else M.1 128 x) → wp (K M' 102 (J k)) Q) → wp (f_X12_layTried_2 K Γ n M 102 (J k) (J j)) Q := by
  intro d
  induction d with
  | zero =>
    intro n M j hR hj hn hQ
    obtain ⟨n, rfl⟩ : ∃ k, n = k + 1 := ⟨n - 1, by omega⟩
    rw [f_X12_layTried_2, wp_ite_f (by rw [show (8 : Int32) = J 8 from rfl, J_lt (by omega) (by omega) (by omega) (by omega)]; omega)]
    exact hQ M (Fr.refl _ _) (fun x => by rw [if_neg (by omega)])
  | succ d ih =>
    intro n M j hR hj hn hQ
    obtain ⟨n, rfl⟩ : ∃ k, n = k + 1 := ⟨n - 1, by omega⟩
    rw [f_X12_layTried_2, wp_ite_t (by rw [show (8 : Int32) = J 8 from rfl, J_lt (by omega) (by omega) (by omega) (by omega)]; omega), wp_ck_t (GKk102 hG), MRf39 hR, MRf78 hR, wp_ck_t (GKk155 hG), show (8 : Int32) = J 8 from rfl, J_mul, J_add, show 8 * (k : Int) + j = ((8 * k + j : Nat) : Int) by omega, wp_ck_t (by rw [GKl155 hG, J_toInt (by omega) (by omega)]; omega), wp_ck_t (GKk128 hG), wp_ck_t (by rw [GKl128 hG, J_toInt (by omega) (by omega)]; omega), J_clamp (a := ((8 * k + j : Nat) : Int)) (by omega) (by omega), J_clamp (a := (j : Int)) (by omega) (by omega), Int.toNat_natCast, Int.toNat_natCast]
    dsimp only
    rw [show (1 : Int32) = J 1 from rfl, J_add, J_suc]
    have hF : Fr [128] M (rhsi M 128 j (M.1 155 (8 * k + j))) := (Fr.refl _ _).si (by simp) _ _
    refine ih n _ (j + 1) (hR.fr hF) (by omega) (by omega) (fun M' h1 h2 => hQ M' (hF.trans h1) (fun x => ?_))
    simp only [h2, si_1, Nat.reduceEqDiff, false_and, if_false, true_and]
    by_cases e : x = j
    · rw [if_neg (show ¬ (j + 1 ≤ x ∧ x < 8) by omega), if_pos e, if_pos (by omega), e]
    · by_cases e2 : j + 1 ≤ x ∧ x < 8
      · rw [if_pos e2, if_pos (by omega)]
      · rw [if_neg e2, if_neg e, if_neg (by omega)]
theorem r_lt33 (hG : GK Γ) {k : Nat} (hk : k < 4) (Q : rhM → Prop) : ∀ (d n : Nat) (M : rhM) (j : Nat), MR M → j + d = 5 → d < n →
    (∀ M', Fr [129] M M' → (∀ x, M'.1 129 x = if j ≤ x ∧ x < 5 then M.1 156 (6 * k + x) else M.1 129 x) → Q M') → wp (f_X12_layTried_33 Γ n M 102 (J k) (J j)) Q := by
  intro d
  induction d with
  | zero =>
    intro n M j hR hj hn hQ
    obtain ⟨n, rfl⟩ : ∃ k, n = k + 1 := ⟨n - 1, by omega⟩
    rw [f_X12_layTried_33, wp_ite_f (by rw [show (5 : Int32) = J 5 from rfl, J_lt (by omega) (by omega) (by omega) (by omega)]; omega), wp_some]
    exact hQ M (Fr.refl _ _) (fun x => by rw [if_neg (by omega)])
  | succ d ih =>
    intro n M j hR hj hn hQ
    obtain ⟨n, rfl⟩ : ∃ k, n = k + 1 := ⟨n - 1, by omega⟩
    rw [f_X12_layTried_33, wp_ite_t (by rw [show (5 : Int32) = J 5 from rfl, J_lt (by omega) (by omega) (by omega) (by omega)]; omega), wp_ck_t (GKk102 hG), MRf40 hR, MRf79 hR, wp_ck_t (GKk156 hG), show (6 : Int32) = J 6 from rfl, J_mul, J_add, show 6 * (k : Int) + j = ((6 * k + j : Nat) : Int) by omega, wp_ck_t (by rw [GKl156 hG, J_toInt (by omega) (by omega)]; omega), wp_ck_t (GKk129 hG), wp_ck_t (by rw [GKl129 hG, J_toInt (by omega) (by omega)]; omega), J_clamp (a := ((6 * k + j : Nat) : Int)) (by omega) (by omega), J_clamp (a := (j : Int)) (by omega) (by omega), Int.toNat_natCast, Int.toNat_natCast]
    dsimp only
    rw [show (1 : Int32) = J 1 from rfl, J_add, J_suc]
    have hF : Fr [129] M (rhsi M 129 j (M.1 156 (6 * k + j))) := (Fr.refl _ _).si (by simp) _ _
    refine ih n _ (j + 1) (hR.fr hF) (by omega) (by omega) (fun M' h1 h2 => hQ M' (hF.trans h1) (fun x => ?_))
    simp only [h2, si_1, Nat.reduceEqDiff, false_and, if_false, true_and]
    by_cases e : x = j
    · rw [if_neg (show ¬ (j + 1 ≤ x ∧ x < 5) by omega), if_pos e, if_pos (by omega), e]
    · by_cases e2 : j + 1 ≤ x ∧ x < 5
      · rw [if_pos e2, if_pos (by omega)]
      · rw [if_neg e2, if_neg e, if_neg (by omega)]
theorem r_keepT (hG : GK Γ) {M : rhM} {L : Ar} (hR : MR M) (hA : RA M 128 0 129 0 L) (h8 : (fl [] L).length ≤ 8) (h5 : L.length ≤ 5) {k : Nat} (hk : k < 4) : wp (f_X12_keepTried Γ M 102 (J k)) (fun M' => Fr [155, 156] M M' ∧ RA M' 155 (8 * k) 156 (6 * k) L ∧ (∀ j, j < 8 * k → M'.1 155 j = M.1 155 j) ∧ ∀ j, j < 6 * k → M'.1 156 j = M.1 156 j) := by
  rw [f_X12_keepTried]
  refine r_kt2 hG hk _ _ 8 rhFU M 0 hR (by omega) (by have := FU_big; omega) (fun M1 f1 v1 => ?_)
  rw [f_X12_keepTried_31]
  refine r_kt33 hG hk _ 5 rhFU M1 0 (hR.fr f1) (by omega) (by have := FU_big; omega) (fun M2 f2 v2 => ?_)
  refine ⟨(f1.sub (by decide)).trans (f2.sub (by decide)), hA.cp h8 h5 (fun i hi => ?_) (fun i hi => ?_), fun j hj => ?_, fun j hj => ?_⟩
  · rw [f2.i (by decide), v1, if_pos (by omega), Nat.add_sub_cancel_left, Nat.zero_add]
  · rw [v2, if_pos (by omega), f1.i (by decide), Nat.add_sub_cancel_left, Nat.zero_add]
  · rw [f2.i (by decide), v1, if_neg (by omega)]
  · rw [v2, if_neg (by omega), f1.i (by decide)]
theorem r_layT (hG : GK Γ) {M : rhM} {L : Ar} {k : Nat} (hk : k < 4) (hR : MR M) (hA : RA M 155 (8 * k) 156 (6 * k) L) (h8 : (fl [] L).length ≤ 8) (h5 : L.length ≤ 5) : wp (f_X12_layTried Γ M 102 (J k)) (fun M' => Fr [128, 129] M M' ∧ RA M' 128 0 129 0 L) := by
  rw [f_X12_layTried]
  refine r_lt2 hG hk _ _ 8 rhFU M 0 hR (by omega) (by have := FU_big; omega) (fun M1 f1 v1 => ?_)
  rw [f_X12_layTried_31]
  refine r_lt33 hG hk _ 5 rhFU M1 0 (hR.fr f1) (by omega) (by have := FU_big; omega) (fun M2 f2 v2 => ?_)
  refine ⟨(f1.sub (by decide)).trans (f2.sub (by decide)), hA.cp h8 h5 (fun i hi => ?_) (fun i hi => ?_)⟩
  · rw [f2.i (by decide), v1, if_pos (by omega), Nat.zero_add]
  · rw [v2, if_pos (by omega), f1.i (by decide), Nat.zero_add]
def hdC : List Tr → Int32
  | [] => J (-1)
  | a :: _ => J (cdT a)
def dec3 (v : Nat) : Tr := (v / 100, v / 10 % 10, v % 10)
theorem cd_dec (v : Nat) : cdT (dec3 v) = v := by unfold cdT dec3; dsimp only; omega
theorem dec_cd {T : Tn} {L : Ar} (hw : TWf T) (wL : WA (tR T) (tH T) L) {a : Tr} (ha : a ∈ pulls T L) : dec3 (cdT a) = a ∧ cdT a < 500 := by
  obtain ⟨a1, a2, a3, a4, a5⟩ := (pulls_ok ha).1
  have x1 := wL.rl_len a1
  have w1 := hw.1
  have w2 := hw.2.1
  obtain ⟨f, m, q⟩ := a
  dsimp only at a1 a2 a3 a4 a5 x1
  unfold dec3 cdT
  dsimp only
  refine ⟨?_, by omega⟩
  rw [show (100 * f + 10 * m + q) / 100 = f by omega, show (100 * f + 10 * m + q) / 10 % 10 = m by omega, show (100 * f + 10 * m + q) % 10 = q by omega]
/-- what is left of the pulls, behind a code -/
def RS (T : Tn) (L : Ar) (c : Int) (rest : List Tr) : Prop := (∀ x, x ∈ pulls T L → (cdT x : Int) ≤ c ∨ x ∈ rest) ∧ (∀ x, x ∈ rest → x ∈ pulls T L ∧ c < cdT x) ∧ rest.Pairwise (fun x y => cdT x < cdT y)
theorem RS_all {T : Tn} {L : Ar} (hw : TWf T) (wL : WA (tR T) (tH T) L) : RS T L (-1) (pulls T L) := by
  refine ⟨fun x hx => Or.inr hx, fun x hx => ⟨hx, by omega⟩, (pulF_sort (T := T) (L := L) (by have := hw.1; omega) (fun f => ?_) (tR T) 0).1⟩
  by_cases c : f < tR T
  · have := wL.rl_len c; have := hw.2.1; omega
  · have e : rl L f = [] := by unfold rl; exact gd_big [] (by have := wL.1; omega)
    rw [e]; simp
theorem RS_next {T : Tn} {L : Ar} {c : Int} {a : Tr} {rest : List Tr} (h : RS T L c (a :: rest)) : RS T L (cdT a) rest := by
  obtain ⟨h1, h2, h3⟩ := h
  obtain ⟨h4, h5⟩ := List.pairwise_cons.mp h3
  refine ⟨fun x hx => ?_, fun x hx => ⟨(h2 x (List.mem_cons_of_mem _ hx)).1, by have := h4 x hx; omega⟩, h5⟩
  rcases h1 x hx with e | e
  · have := (h2 a List.mem_cons_self).2; exact Or.inl (by omega)
  · rcases List.mem_cons.mp e with e | e
    · rw [e]; exact Or.inl (Int.le_refl _)
    · exact Or.inr e
theorem r_np9 (hG : GK Γ) (hw : TWf T) {L : Ar} (wL : WA (tR T) (tH T) L) {c : Int} {rest : List Tr} (hRS : RS T L c rest) : ∀ (d f : Nat) (M : rhM) (v : Nat), v + d = 500 → d < f → c < v → (∀ x, x ∈ rest → v ≤ cdT x) → MR M → TM M b T (-1) lb → RA M 128 0 129 0 L →
    wp (f_X12_nextPull_9 Γ f M 102 (J v)) (fun x => x.1 = hdC rest ∧ Fr [127] M x.2) := by
  intro d
  induction d with
  | zero =>
    intro f M v hv hf hc hge hR hT hA
    obtain ⟨f, rfl⟩ : ∃ k, f = k + 1 := ⟨f - 1, by omega⟩
    have hr : rest = [] := by
      cases rest with
      | nil => rfl
      | cons a r =>
        have h1 := hge a List.mem_cons_self
        have h2 := (dec_cd hw wL (hRS.2.1 a List.mem_cons_self).1).2
        omega
    rw [f_X12_nextPull_9, wp_ite_f (by rw [show (500 : Int32) = J 500 from rfl, J_lt (by omega) (by omega) (by omega) (by omega)]; omega), wp_some, hr]
    exact ⟨rfl, Fr.refl _ _⟩
  | succ d ih =>
    intro f M v hv hf hc hge hR hT hA
    obtain ⟨f, rfl⟩ : ∃ k, f = k + 1 := ⟨f - 1, by omega⟩
    have x1 : (dec3 v).1 ≤ 9 := by unfold dec3; dsimp only; omega
    have x2 : (dec3 v).2.1 ≤ 9 := by unfold dec3; dsimp only; omega
    have x3 : (dec3 v).2.2 ≤ 9 := by unfold dec3; dsimp only; omega
    have ev : J v = J (cdT (dec3 v)) := by rw [cd_dec]
    rw [f_X12_nextPull_9, wp_ite_t (by rw [show (500 : Int32) = J 500 from rfl, J_lt (by omega) (by omega) (by omega) (by omega)]; omega), wp_ck_t (GKk102 hG)]
    have e1 : J v / 100 = J (dec3 v).1 := by rw [ev]; exact cd_f x1 x2 x3
    have e2 : J v / 10 - (J v / 10) / 10 * 10 = J (dec3 v).2.1 := by rw [ev]; exact cd_m x1 x2 x3
    have e3 : J v - J v / 10 * 10 = J (dec3 v).2.2 := by rw [ev]; exact cd_t x1 x2 x3
    rw [e1, e2, e3, wp_bind]
    refine (r_law hG hR ⟨b, lb, hT⟩ hw hA wL (by omega) (by omega) (by omega) (by omega) (by omega) (by omega)).mono (fun r hr => ?_)
    obtain ⟨h1, hF⟩ := hr
    have hR1 := hR.fr hF
    have hT1 := hT.fr hF (by rw [hF.i (by decide)]) (by rw [hF.i (by decide)]) (by rw [hF.i (by decide)]) (by decide)
    have hA1 := hA.fr hF (by decide) (by decide)
    by_cases c1 : okP T L (dec3 v).1 (dec3 v).2.1 (dec3 v).2.2
    · have hin : dec3 v ∈ pulls T L := pulls_in c1
      have hrest : dec3 v ∈ rest := by
        rcases hRS.1 _ hin with e | e
        · rw [cd_dec] at e; omega
        · exact e
      rw [wp_ite_f (by rw [h1, bi_t (okZ_of.mpr c1)]; decide), wp_some]
      refine ⟨?_, hF⟩
      cases rest with
      | nil => simp at hrest
      | cons a r =>
        have ha := hge a List.mem_cons_self
        show J v = J (cdT a)
        rcases List.mem_cons.mp hrest with e | e
        · rw [← e, cd_dec]
        · have := (List.pairwise_cons.mp hRS.2.2).1 _ e
          rw [cd_dec] at this; omega
    · rw [wp_ite_t (by rw [h1, bi_f (fun h => c1 (okZ_of.mp h))]), show (1 : Int32) = J 1 from rfl, J_add, J_suc]
      refine (ih f r.2 (v + 1) (by omega) (by omega) (by omega) (fun x hx => ?_) hR1 hT1 hA1).mono (fun y q => ⟨q.1, hF.trans q.2⟩)
      have := hge x hx
      by_cases e : v = cdT x
      · exfalso
        apply c1
        rw [e, (dec_cd hw wL (hRS.2.1 x hx).1).1]
        exact pulls_ok (hRS.2.1 x hx).1
      · omega
theorem r_nextPull (hG : GK Γ) (hw : TWf T) {L : Ar} (wL : WA (tR T) (tH T) L) {c : Int} {rest : List Tr} (hRS : RS T L c rest) (hc : -1 ≤ c ∧ c < 500) {d : Nat} (hd : d < 4) {M : rhM} (hR : MR M) (hT : TM M b T (-1) lb) (hA : RA M 155 (8 * d) 156 (6 * d) L) : wp (f_X12_nextPull Γ M 102 (J d) (J c)) (fun x => x.1 = hdC rest ∧ Fr [127, 128, 129] M x.2 ∧ RA x.2 128 0 129 0 L) := by
  rw [f_X12_nextPull, wp_ck_t (GKk102 hG), wp_bind]
  refine (r_layT hG hd hR hA (by rw [wL.len]; exact hw.2.1) (by rw [wL.1]; exact hw.1)).mono (fun M1 q => ?_)
  obtain ⟨F1, A1⟩ := q
  have hT1 := hT.fr F1 (by rw [F1.i (by decide)]) (by rw [F1.i (by decide)]) (by rw [F1.i (by decide)]) (by decide)
  obtain ⟨v, hv⟩ : ∃ v : Nat, c + 1 = v := ⟨(c + 1).toNat, by omega⟩
  dsimp only
  rw [show (1 : Int32) = J 1 from rfl, J_add, hv]
  refine (r_np9 hG hw wL hRS (500 - v) rhFU M1 v (by omega) (by have := FU_big; omega) (by omega) (fun x hx => by have := (hRS.2.1 x hx).2; omega) (hR.fr F1) hT1 A1).mono (fun x q => ?_)
  exact ⟨q.1, (F1.sub (by decide)).trans (q.2.sub (by decide)), A1.fr q.2 (by decide) (by decide)⟩
end
