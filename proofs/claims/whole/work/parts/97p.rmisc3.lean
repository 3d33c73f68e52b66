/-! REFERENCE: BACK, FEED, ABOUT -/
section
variable {Γ : rhG} {M : rhM} {T : Tn} {L : Ar}
theorem r_ba42 (hG : GK Γ) {k : Nat} (hk : k < 3) (K : rhM → Nat → Int32 → Option (Int32 × rhM)) (Q : Int32 × rhM → Prop) : ∀ (d n : Nat) (M : rhM) (j : Nat), MR M → j + d = 8 → d < n →
    (∀ M', Fr [131] M M' → (∀ x, M'.1 131 x = if j ≤ x ∧ x < 8 then M.1 161 (8 * k + x) else M.1 131 x) → wp (K M' 102 (J k)) Q) → wp (f_X12_back_42 K Γ n M 102 (J k) (J j)) Q := by
  intro d
  induction d with
  | zero =>
    intro n M j hR hj hn hQ
    obtain ⟨n, rfl⟩ : ∃ k, n = k + 1 := ⟨n - 1, by omega⟩
    rw [f_X12_back_42, wp_ite_f (by rw [show (8 : Int32) = J 8 from rfl, J_lt (by omega) (by omega) (by omega) (by omega)]; omega)]
    exact hQ M (Fr.refl _ _) (fun x => by rw [if_neg (by omega)])
  | succ d ih =>
    intro n M j hR hj hn hQ
    obtain ⟨n, rfl⟩ : ∃ k, n = k + 1 := ⟨n - 1, by omega⟩
    rw [f_X12_back_42, wp_ite_t (by rw [show (8 : Int32) = J 8 from rfl, J_lt (by omega) (by omega) (by omega) (by omega)]; omega), wp_ck_t (GKk102 hG), MRf42 hR, MRf86 hR, wp_ck_t (GKk161 hG), show (8 : Int32) = J 8 from rfl, J_mul, J_add, show 8 * (k : Int) + j = ((8 * k + j : Nat) : Int) by omega, wp_ck_t (by rw [GKl161 hG, J_toInt (by omega) (by omega)]; omega), wp_ck_t (GKk131 hG), wp_ck_t (by rw [GKl131 hG, J_toInt (by omega) (by omega)]; omega), J_clamp (a := ((8 * k + j : Nat) : Int)) (by omega) (by omega), J_clamp (a := (j : Int)) (by omega) (by omega), Int.toNat_natCast, Int.toNat_natCast]
    dsimp only
    rw [show (1 : Int32) = J 1 from rfl, J_add, J_suc]
    have hF : Fr [131] M (rhsi M 131 j (M.1 161 (8 * k + j))) := (Fr.refl _ _).si (by simp) _ _
    refine ih n _ (j + 1) (hR.fr hF) (by omega) (by omega) (fun M' h1 h2 => hQ M' (hF.trans h1) (fun x => ?_))
    simp only [h2, si_1, Nat.reduceEqDiff, false_and, if_false, true_and]
    by_cases e : x = j
    · rw [if_neg (show ¬ (j + 1 ≤ x ∧ x < 8) by omega), if_pos e, if_pos (by omega), e]
    · by_cases e2 : j + 1 ≤ x ∧ x < 8
      · rw [if_pos e2, if_pos (by omega)]
      · rw [if_neg e2, if_neg e, if_neg (by omega)]
theorem r_ba73 (hG : GK Γ) {k : Nat} (hk : k < 3) (K : rhM → Nat → Int32 → Option (Int32 × rhM)) (Q : Int32 × rhM → Prop) : ∀ (d n : Nat) (M : rhM) (j : Nat), MR M → j + d = 5 → d < n →
    (∀ M', Fr [132] M M' → (∀ x, M'.1 132 x = if j ≤ x ∧ x < 5 then M.1 162 (6 * k + x) else M.1 132 x) → wp (K M' 102 (J k)) Q) → wp (f_X12_back_73 K Γ n M 102 (J k) (J j)) Q := by
  intro d
  induction d with
  | zero =>
    intro n M j hR hj hn hQ
    obtain ⟨n, rfl⟩ : ∃ k, n = k + 1 := ⟨n - 1, by omega⟩
    rw [f_X12_back_73, wp_ite_f (by rw [show (5 : Int32) = J 5 from rfl, J_lt (by omega) (by omega) (by omega) (by omega)]; omega)]
    exact hQ M (Fr.refl _ _) (fun x => by rw [if_neg (by omega)])
  | succ d ih =>
    intro n M j hR hj hn hQ
    obtain ⟨n, rfl⟩ : ∃ k, n = k + 1 := ⟨n - 1, by omega⟩
    rw [f_X12_back_73, wp_ite_t (by rw [show (5 : Int32) = J 5 from rfl, J_lt (by omega) (by omega) (by omega) (by omega)]; omega), wp_ck_t (GKk102 hG), MRf43 hR, MRf87 hR, wp_ck_t (GKk162 hG), show (6 : Int32) = J 6 from rfl, J_mul, J_add, show 6 * (k : Int) + j = ((6 * k + j : Nat) : Int) by omega, wp_ck_t (by rw [GKl162 hG, J_toInt (by omega) (by omega)]; omega), wp_ck_t (GKk132 hG), wp_ck_t (by rw [GKl132 hG, J_toInt (by omega) (by omega)]; omega), J_clamp (a := ((6 * k + j : Nat) : Int)) (by omega) (by omega), J_clamp (a := (j : Int)) (by omega) (by omega), Int.toNat_natCast, Int.toNat_natCast]
    dsimp only
    rw [show (1 : Int32) = J 1 from rfl, J_add, J_suc]
    have hF : Fr [132] M (rhsi M 132 j (M.1 162 (6 * k + j))) := (Fr.refl _ _).si (by simp) _ _
    refine ih n _ (j + 1) (hR.fr hF) (by omega) (by omega) (fun M' h1 h2 => hQ M' (hF.trans h1) (fun x => ?_))
    simp only [h2, si_1, Nat.reduceEqDiff, false_and, if_false, true_and]
    by_cases e : x = j
    · rw [if_neg (show ¬ (j + 1 ≤ x ∧ x < 5) by omega), if_pos e, if_pos (by omega), e]
    · by_cases e2 : j + 1 ≤ x ∧ x < 5
      · rw [if_pos e2, if_pos (by omega)]
      · rw [if_neg e2, if_neg e, if_neg (by omega)]
theorem r_ba103 (hG : GK Γ) {k N : Nat} (hk : k < 3) (hN : N ≤ 300) (Q : Int32 × rhM → Prop) : ∀ (d n : Nat) (M : rhM) (j : Nat), MR M → M.1 102 48 = J N → j + d = N → d < n →
    (∀ M', Fr [133, 134] M M' → (∀ x, M'.1 133 x = if j ≤ x ∧ x < N then M.1 163 (300 * k + x) else M.1 133 x) → (∀ x, M'.1 134 x = if j ≤ x ∧ x < N then M.1 164 (300 * k + x) else M.1 134 x) → Q (J N, M')) → wp (f_X12_back_103 Γ n M 102 (J k) (J j)) Q := by
  intro d
  induction d with
  | zero =>
    intro n M j hR h48 hj hn hQ
    obtain ⟨n, rfl⟩ : ∃ k, n = k + 1 := ⟨n - 1, by omega⟩
    rw [f_X12_back_103, wp_ck_t (GKk102 hG), h48, wp_ite_f (by rw [J_lt (by omega) (by omega) (by omega) (by omega)]; omega), wp_some]
    exact hQ M (Fr.refl _ _) (fun x => by rw [if_neg (by omega)]) (fun x => by rw [if_neg (by omega)])
  | succ d ih =>
    intro n M j hR h48 hj hn hQ
    obtain ⟨n, rfl⟩ : ∃ k, n = k + 1 := ⟨n - 1, by omega⟩
    have hcl : (J ((300 * k + j : Nat) : Int)).toNatClampNeg = 300 * k + j := by rw [J_clamp (by omega) (by omega), Int.toNat_natCast]
    have hcj : (J (j : Int)).toNatClampNeg = j := by rw [J_clamp (by omega) (by omega), Int.toNat_natCast]
    have hr9 : 0 ≤ (J ((300 * k + j : Nat) : Int)).toInt ∧ (J ((300 * k + j : Nat) : Int)).toInt < ((900 : Nat) : Int) := by rw [J_toInt (by omega) (by omega)]; omega
    have hr3 : 0 ≤ (J (j : Int)).toInt ∧ (J (j : Int)).toInt < ((300 : Nat) : Int) := by rw [J_toInt (by omega) (by omega)]; omega
    rw [f_X12_back_103, wp_ck_t (GKk102 hG), h48, wp_ite_t (by rw [J_lt (by omega) (by omega) (by omega) (by omega)]; omega), MRf46 hR, MRf88 hR, wp_ck_t (GKk163 hG), show (300 : Int32) = J 300 from rfl, J_mul, J_add, show 300 * (k : Int) + j = ((300 * k + j : Nat) : Int) by omega, GKl163 hG, wp_ck_t hr9, wp_ck_t (GKk133 hG), GKl133 hG, wp_ck_t hr3, hcl, hcj, MRf47 hR, MRf89 hR, wp_ck_t (GKk164 hG), GKl164 hG, wp_ck_t hr9, wp_ck_t (GKk134 hG), GKl134 hG, wp_ck_t hr3]
    dsimp only
    rw [si_1, if_neg (by omega), show (1 : Int32) = J 1 from rfl, J_add, J_suc]
    have hF : Fr [133, 134] M (rhsi (rhsi M 133 j (M.1 163 (300 * k + j))) 134 j (M.1 164 (300 * k + j))) := ((Fr.refl _ _).si (by simp) _ _).si (by simp) _ _
    refine ih n _ (j + 1) (hR.fr hF) (by rw [si_1, if_neg (by omega), si_1, if_neg (by omega)]; exact h48) (by omega) (by omega) (fun M' h1 h2 h3 => hQ M' (hF.trans h1) (fun x => ?_) (fun x => ?_))
    · simp only [h2, si_1, Nat.reduceEqDiff, false_and, if_false, true_and]
      by_cases e : x = j
      · rw [if_neg (show ¬ (j + 1 ≤ x ∧ x < N) by omega), if_pos e, if_pos (by omega), e]
      · by_cases e2 : j + 1 ≤ x ∧ x < N
        · rw [if_pos e2, if_pos (by omega)]
        · rw [if_neg e2, if_neg e, if_neg (by omega)]
    · simp only [h3, si_1, Nat.reduceEqDiff, false_and, if_false, true_and]
      by_cases e : x = j
      · rw [if_neg (show ¬ (j + 1 ≤ x ∧ x < N) by omega), if_pos e, if_pos (by omega), e]
      · by_cases e2 : j + 1 ≤ x ∧ x < N
        · rw [if_pos e2, if_pos (by omega)]
        · rw [if_neg e2, if_neg e, if_neg (by omega)]
theorem r_back (hG : GK Γ) (hR : MR M) (hw : TWf T) (h4 : R4 M L) {bn : Bn} (h5 : R5 M bn) {bx : Bx} (h9 : R9 M bx) (hbx : ∀ k x, bx k = some x → BN T (fst T) x.1 x.2 ∧ x.1.length ≤ 300) {z : Int} (z1 : -2147483648 ≤ z) (z2 : z < 2147483648) : wp (f_X12_back Γ M 102 (J z)) (fun r => r.1 = J (match bacX bx z with | none => -1 | some x => (x.1.length : Int)) ∧ KP [4, 5] M r.2 ∧ KR M r.2 ∧ R4 r.2 (match bacX bx z with | none => L | some x => x.2) ∧ R5 r.2 (match bacX bx z with | none => bn | some x => x.1)) := by
  unfold bacX
  rw [f_X12_back, show (0 : Int32) = J 0 from rfl, show (2 : Int32) = J 2 from rfl, m_isInJ z1 z2 (by omega) (by omega) (by omega) (by omega), wp_bind, wp_some]
  by_cases c : ¬ (0 ≤ z ∧ z ≤ 2)
  · rw [bi_f c, wp_ite_t (show (0 : Int32) = J 0 from rfl), wp_some, if_neg (by omega)]
    exact ⟨rfl, KP.refl _ _, KR.refl _, h4, h5⟩
  have c := Classical.not_not.mp c
  obtain ⟨k, rfl⟩ : ∃ k : Nat, z = k := ⟨z.toNat, by omega⟩
  have hk : k < 3 := by omega
  have hin : 0 ≤ (k : Int) ∧ (k : Int) < 3 := by omega
  rw [bi_t c, wp_ite_f (by decide), wp_ck_t (GKk102 hG), MRf84 hR, wp_ck_t (GKk159 hG), wp_ck_t (by rw [GKl159 hG, J_toInt (by omega) (by omega)]; omega), J_clamp (by omega) (by omega), Int.toNat_natCast, if_pos hin]
  cases hx : bx k with
  | none =>
    rw [wp_ite_t (by rw [(h9 k hk).1 hx]; decide), wp_some]
    exact ⟨rfl, KP.refl _ _, KR.refl _, h4, h5⟩
  | some x =>
    obtain ⟨y1, y2, y3, y4, y5⟩ := (h9 k hk).2 x hx
    obtain ⟨hB, hl⟩ := hbx k x hx
    have wX := BN_WA hw hB
    rw [y1, wp_ite_f (by rw [J_lt (by omega) (by omega) (by omega) (by omega)]; omega), MRf85 hR, wp_ck_t (GKk160 hG), wp_ck_t (by rw [GKl160 hG, J_toInt (by omega) (by omega)]; omega)]
    dsimp only
    rw [si_1, if_neg (by omega), y2]
    have hF0 : Fr [102] M (rhsi (rhsi M 102 48 (J x.1.length)) 102 49 (J (wsum x.1))) := ((Fr.refl _ _).si (by simp) _ _).si (by simp) _ _
    have hk0 : KP [5] M (rhsi (rhsi M 102 48 (J x.1.length)) 102 49 (J (wsum x.1))) := ((KP.refl _ _).si _ (by decide)).si _ (by decide)
    have hr0 : KR M (rhsi (rhsi M 102 48 (J x.1.length)) 102 49 (J (wsum x.1))) := ((KR.refl _).si _ (by decide)).si _ (by decide)
    have e48 : (rhsi (rhsi M 102 48 (J x.1.length)) 102 49 (J (wsum x.1))).1 102 48 = J x.1.length := by rw [si_1, if_neg (by omega), si_1, if_pos ⟨rfl, rfl⟩]
    have e49 : (rhsi (rhsi M 102 48 (J x.1.length)) 102 49 (J (wsum x.1))).1 102 49 = J (wsum x.1) := by rw [si_1, if_pos ⟨rfl, rfl⟩]
    obtain ⟨M0, hM0⟩ : ∃ N, N = rhsi (rhsi M 102 48 (J x.1.length)) 102 49 (J (wsum x.1)) := ⟨_, rfl⟩
    rw [← hM0] at hF0 hk0 hr0 e48 e49 ⊢
    have hR0 := hR.fr hF0
    refine r_ba42 hG hk _ _ 8 rhFU M0 0 hR0 (by omega) (by have := FU_big; omega) (fun M1 f1 v1 => ?_)
    rw [f_X12_back_71]
    refine r_ba73 hG hk _ _ 5 rhFU M1 0 (hR0.fr f1) (by omega) (by have := FU_big; omega) (fun M2 f2 v2 => ?_)
    rw [f_X12_back_101]
    refine r_ba103 (N := x.1.length) hG hk hl _ x.1.length rhFU M2 0 ((hR0.fr f1).fr f2) (by rw [f2.i (by decide), f1.i (by decide)]; exact e48) (by omega) (by have := FU_big; omega) (fun M3 f3 v3 v4 => ?_)
    have k1 : KP [4] M0 M1 := KP.fr f1 (by decide)
    have k2 : KP [4] M1 M2 := KP.fr f2 (by decide)
    have k3 : KP [5] M2 M3 := KP.fr f3 (by decide)
    have h8x : (fl [] x.2).length ≤ 8 := by rw [wX.len]; exact hw.2.1
    have hl5x : x.2.length ≤ 5 := by rw [wX.1]; exact hw.1
    refine ⟨rfl, (hk0.sub (by decide)).trans ((k1.sub (by decide)).trans ((k2.sub (by decide)).trans (k3.sub (by decide)))), hr0.trans ((KR.fr f1 (by decide)).trans ((KR.fr f2 (by decide)).trans (KR.fr f3 (by decide)))), y3.cp h8x hl5x (fun i hi => ?_) (fun i hi => ?_), ?_, ?_, ?_, ?_⟩
    · dsimp only; rw [f3.i (by decide), f2.i (by decide), v1, if_pos (by omega), hF0.i (by decide), Nat.zero_add]
    · dsimp only; rw [f3.i (by decide), v2, if_pos (by omega), f1.i (by decide), hF0.i (by decide), Nat.zero_add]
    · dsimp only; rw [f3.i (by decide), f2.i (by decide), f1.i (by decide)]; exact e48
    · dsimp only; rw [f3.i (by decide), f2.i (by decide), f1.i (by decide)]; exact e49
    · refine Sg_shift 0 _ (300 * k) (fun i hi => ?_) y4
      rw [bcd_len] at hi
      dsimp only; rw [v3, if_pos (by omega), f2.i (by decide), f1.i (by decide), hF0.i (by decide), Nat.zero_add]
    · refine Sg_shift 0 _ (300 * k) (fun i hi => ?_) y5
      rw [bwt_len] at hi
      dsimp only; rw [v4, if_pos (by omega), f2.i (by decide), f1.i (by decide), hF0.i (by decide), Nat.zero_add]
def fwd (a b c d e : Int32) (i : Nat) : Int32 := if i < 4 then a else if i < 8 then b else if i < 12 then c else if i < 16 then d else e
def fby (a b c d e : Int32) (i : Nat) : Int32 := by1 (fwd a b c d e i) (24 - 8 * (i % 4))
theorem fby_all (a b c d e : Int32) : (List.range 20).map (fby a b c d e) = by4 a ++ by4 b ++ by4 c ++ by4 d ++ by4 e := rfl
theorem r_feed18 (hG : GK Γ) {bs : List Int32} (hl : bs.length + 20 ≤ 1600) (a b c d e : Int32) (K : rhM → Nat → Option (Int32 × rhM)) (Q : Int32 × rhM → Prop) : ∀ (m n : Nat) (M : rhM) (i : Nat), MR M → M.1 102 2 = J bs.length → Bs (M.1 103) (bs ++ (List.range i).map (fby a b c d e)) → i + m = 20 → m < n →
    (∀ M', Fr [103] M M' → Bs (M'.1 103) (bs ++ (List.range 20).map (fby a b c d e)) → wp (K M' 102) Q) → wp (f_X12_feed_18 K Γ n M 102 a b c d e (J i)) Q := by
  intro m
  induction m with
  | zero =>
    intro n M i hR h2 hB hi hn hQ
    obtain ⟨n, rfl⟩ : ∃ k, n = k + 1 := ⟨n - 1, by omega⟩
    rw [f_X12_feed_18, wp_ite_f (by rw [show (20 : Int32) = J 20 from rfl, J_lt (by omega) (by omega) (by omega) (by omega)]; omega)]
    exact hQ M (Fr.refl _ _) (by rw [show i = 20 by omega] at hB; exact hB)
  | succ m ih =>
    intro n M i hR h2 hB hi hn hQ
    obtain ⟨n, rfl⟩ : ∃ k, n = k + 1 := ⟨n - 1, by omega⟩
    have go : wp (f_X12_feed_71 (f_X12_feed_18 K Γ n) Γ M 102 a b c d e (J i) (fwd a b c d e i)) Q := by
      rw [f_X12_feed_71, wp_ck_t (GKk102 hG), MRf0 hR, wp_ck_t (GKk103 hG), h2, J_add, show (bs.length : Int) + i = ((bs.length + i : Nat) : Int) by omega, wp_ck_t (by rw [GKl103 hG, J_toInt (by omega) (by omega)]; omega), J_clamp (by omega) (by omega), Int.toNat_natCast, by1_ref _ i (by omega)]
      dsimp only
      rw [show (1 : Int32) = J 1 from rfl, J_add, J_suc]
      have hF : Fr [103] M (rhsi M 103 (bs.length + i) (by1 (fwd a b c d e i) (24 - 8 * (i % 4)))) := (Fr.refl _ _).si (by simp) _ _
      refine ih n _ (i + 1) (hR.fr hF) (by rw [si_1, if_neg (by omega)]; exact h2) ?_ (by omega) (by omega) (fun M' h1 h3 => hQ M' (hF.trans h1) h3)
      rw [List.range_succ, List.map_append, ← List.append_assoc]
      have hlen : (bs ++ (List.range i).map (fby a b c d e)).length = bs.length + i := by rw [List.length_append, List.length_map, List.length_range]
      refine Bs_push hB (fun j hj => ?_) ?_
      · rw [hlen] at hj
        rw [si_1, if_neg (by omega)]
      · rw [hlen, si_1, if_pos ⟨rfl, rfl⟩]; rfl
    rw [f_X12_feed_18, wp_ite_t (by rw [show (20 : Int32) = J 20 from rfl, J_lt (by omega) (by omega) (by omega) (by omega)]; omega)]
    unfold fwd at go
    by_cases c1 : i < 4
    · rw [if_pos c1] at go
      rw [wp_ite_t (by rw [show (4 : Int32) = J 4 from rfl, J_lt (by omega) (by omega) (by omega) (by omega)]; omega)]; exact go
    rw [if_neg c1] at go
    rw [wp_ite_f (by rw [show (4 : Int32) = J 4 from rfl, J_lt (by omega) (by omega) (by omega) (by omega)]; omega)]
    by_cases c1 : i < 8
    · rw [if_pos c1] at go
      rw [wp_ite_t (by rw [show (8 : Int32) = J 8 from rfl, J_lt (by omega) (by omega) (by omega) (by omega)]; omega)]; exact go
    rw [if_neg c1] at go
    rw [wp_ite_f (by rw [show (8 : Int32) = J 8 from rfl, J_lt (by omega) (by omega) (by omega) (by omega)]; omega)]
    by_cases c1 : i < 12
    · rw [if_pos c1] at go
      rw [wp_ite_t (by rw [show (12 : Int32) = J 12 from rfl, J_lt (by omega) (by omega) (by omega) (by omega)]; omega)]; exact go
    rw [if_neg c1] at go
    rw [wp_ite_f (by rw [show (12 : Int32) = J 12 from rfl, J_lt (by omega) (by omega) (by omega) (by omega)]; omega)]
    by_cases c1 : i < 16
    · rw [if_pos c1] at go
      rw [wp_ite_t (by rw [show (16 : Int32) = J 16 from rfl, J_lt (by omega) (by omega) (by omega) (by omega)]; omega)]; exact go
    rw [if_neg c1] at go
    rw [wp_ite_f (by rw [show (16 : Int32) = J 16 from rfl, J_lt (by omega) (by omega) (by omega) (by omega)]; omega)]
    exact go
theorem r_feed (hG : GK Γ) (hR : MR M) {bs : List Int32} (h : R1 M bs) (hl : bs.length ≤ 1600) (a b c d e : Int32) : wp (f_X12_feed Γ M 102 a b c d e) (fun r => r.1 = J (fedV bs) ∧ KP [1] M r.2 ∧ KR M r.2 ∧ R1 r.2 (fedL bs a b c d e)) := by
  unfold fedV fedL
  rw [f_X12_feed, wp_ck_t (GKk102 hG), h.1, show (20 : Int32) = J 20 from rfl, J_add]
  by_cases c0 : 1600 < bs.length + 20
  · rw [wp_ite_t (by rw [show (1600 : Int32) = J 1600 from rfl, J_lt (by omega) (by omega) (by omega) (by omega)]; omega), wp_some, if_pos c0, if_pos c0]
    exact ⟨rfl, KP.refl _ _, KR.refl _, h⟩
  rw [wp_ite_f (by rw [show (1600 : Int32) = J 1600 from rfl, J_lt (by omega) (by omega) (by omega) (by omega)]; omega), if_neg c0, if_neg c0]
  refine r_feed18 hG (bs := bs) (by omega) a b c d e _ _ 20 rhFU M 0 hR h.1 (by rw [List.range_zero, List.map_nil, List.append_nil]; exact h.2) (by omega) (by have := FU_big; omega) (fun M1 f1 hB => ?_)
  rw [f_X12_feed_105, wp_ck_t (GKk102 hG), f1.i (by decide), h.1]
  dsimp only
  rw [wp_some]
  dsimp only
  rw [si_1, if_pos ⟨rfl, rfl⟩, show (20 : Int32) = J 20 from rfl, J_add]
  refine ⟨rfl, (KP.fr f1 (by decide)).si _ (by decide), (KR.fr f1 (by decide)).si _ (by decide), ?_, ?_⟩
  · rw [si_1, if_pos ⟨rfl, rfl⟩]; simp only [List.length_append, by4_len]; rfl
  · rw [fby_all, ← List.append_assoc, ← List.append_assoc, ← List.append_assoc, ← List.append_assoc] at hB
    have e3 : (rhsi M1 102 2 (J ((bs.length : Int) + 20))).1 103 = M1.1 103 := by funext i; rw [si_1, if_neg (by omega)]
    rw [e3]; exact hB
theorem r_about (hG : GK Γ) (hR : MR M) (h3 : R3 M T) {bn : Bn} (h5 : R5 M bn) {tl : List Tr} (h6 : R6 M tl) {gl : List Nat} (h7 : R7 M gl) {sg : List Si} (h10 : R10 M sg) {tm : Nat} (h11 : R11 M tm) {bs : List Int32} (h1 : R1 M bs) {ly : List Nat} (h8 : R8 M ly) {z : Int} (z1 : -2147483648 ≤ z) (z2 : z < 2147483648) : f_X12_about Γ M 102 (J z) = some (J (aboV T bn tl gl sg tm bs ly z)) := by
  obtain ⟨bk, lb, hT⟩ := h3
  have hT' := hT
  obtain ⟨hb, e34, e105, e106, e109, e110, e108, e119, e111, e44, e45, g1, g2, l1, l2, e112, e113, e114, e115, e116, e123, e124⟩ := hT
  unfold aboV
  rw [f_X12_about]
  simp only [show (0 : Int32) = J 0 from rfl, show (1 : Int32) = J 1 from rfl, show (2 : Int32) = J 2 from rfl, show (3 : Int32) = J 3 from rfl, show (4 : Int32) = J 4 from rfl, show (5 : Int32) = J 5 from rfl, show (6 : Int32) = J 6 from rfl, show (7 : Int32) = J 7 from rfl, show (8 : Int32) = J 8 from rfl, show (9 : Int32) = J 9 from rfl, show (10 : Int32) = J 10 from rfl]
  have hE : ∀ k : Int, 0 ≤ k → k ≤ 10 → (J z = J k) = (z = k) := fun k k1 k2 => by rw [J_eq (by omega) (by omega) (by omega) (by omega)]
  by_cases c : z = 0
  · rw [if_pos (congrArg J c), if_pos c, rhck_t (GKk102 hG), m_houseMany hG hR hT', Option.bind_some]
  rw [if_neg (by rw [hE 0 (by omega) (by omega)]; exact c), if_neg c]
  by_cases c : z = 1
  · rw [if_pos (congrArg J c), if_pos c, rhck_t (GKk102 hG), m_railMany hG hR hT', Option.bind_some]
  rw [if_neg (by rw [hE 1 (by omega) (by omega)]; exact c), if_neg c]
  by_cases c : z = 2
  · rw [if_pos (congrArg J c), if_pos c, rhck_t (GKk102 hG), h5.1]
  rw [if_neg (by rw [hE 2 (by omega) (by omega)]; exact c), if_neg c]
  by_cases c : z = 3
  · rw [if_pos (congrArg J c), if_pos c, rhck_t (GKk102 hG), h6.1]
  rw [if_neg (by rw [hE 3 (by omega) (by omega)]; exact c), if_neg c]
  by_cases c : z = 4
  · rw [if_pos (congrArg J c), if_pos c, rhck_t (GKk102 hG), h7.1]
  rw [if_neg (by rw [hE 4 (by omega) (by omega)]; exact c), if_neg c]
  by_cases c : z = 5
  · rw [if_pos (congrArg J c), if_pos c, rhck_t (GKk102 hG), h10.1]
  rw [if_neg (by rw [hE 5 (by omega) (by omega)]; exact c), if_neg c]
  by_cases c : z = 6
  · rw [if_pos (congrArg J c), if_pos c, rhck_t (GKk102 hG), show M.1 102 83 = J tm from h11]
  rw [if_neg (by rw [hE 6 (by omega) (by omega)]; exact c), if_neg c]
  by_cases c : z = 7
  · rw [if_pos (congrArg J c), if_pos c, rhck_t (GKk102 hG), h1.1]
  rw [if_neg (by rw [hE 7 (by omega) (by omega)]; exact c), if_neg c]
  by_cases c : z = 8
  · rw [if_pos (congrArg J c), if_pos c, rhck_t (GKk102 hG), h5.2.1]
  rw [if_neg (by rw [hE 8 (by omega) (by omega)]; exact c), if_neg c]
  by_cases c : z = 9
  · rw [if_pos (congrArg J c), if_pos c, rhck_t (GKk102 hG), MRf14 hR, rhck_t (GKk108 hG), e34, rhck_t (by rw [GKl108 hG, J_toInt (by omega) (by omega)]; omega), J_clamp (by omega) (by omega), Int.toNat_natCast, e108]
  rw [if_neg (by rw [hE 9 (by omega) (by omega)]; exact c), if_neg c]
  by_cases c : z = 10
  · rw [if_pos (congrArg J c), if_pos c, rhck_t (GKk102 hG), h8.1]
  rw [if_neg (by rw [hE 10 (by omega) (by omega)]; exact c), if_neg c]
  rfl
end
