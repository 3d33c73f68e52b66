/-! THE CLASS'S READER: a law -/
/-- what holds while a law is read into the town t -/
def LE (Γ : rhG) (M : rhM) (t : Nat) (H : List (List Nat)) : Prop := GK Γ ∧ TSh Γ M t ∧ (t = 11 ∨ t = 22) ∧ (M.2.2 3 11 = t + 6 ∧ M.2.2 3 10 = t ∧ M.2.2 3 4 = 8) ∧ CN M 8 H ∧ H.length ≤ 8 ∧ M.1 t 1 = J H.length
def LX (t : Nat) (M M' : rhM) : Prop := Fr [3, 4, t + 6, t + 7, t + 8] M M' ∧ ∀ k, k ≠ 0 → k ≠ 1 → M'.1 3 k = M.1 3 k
theorem LX.refl (t : Nat) (M : rhM) : LX t M M := ⟨Fr.refl _ _, fun _ _ _ => rfl⟩
theorem LX.trans {t : Nat} {M M' M'' : rhM} (h : LX t M M') (h2 : LX t M' M'') : LX t M M'' := ⟨h.1.trans h2.1, fun k a b => (h2.2 k a b).trans (h.2 k a b)⟩
theorem LX.cx {t : Nat} {M M' : rhM} (h : CX M M') : LX t M M' := ⟨h.1.sub (fun r hr => by simp only [List.mem_cons, List.not_mem_nil, or_false] at hr ⊢; omega), h.2⟩
theorem LX.e {t : Nat} {M M' : rhM} (ht : t = 11 ∨ t = 22) (h : Fr [t + 6, t + 7, t + 8] M M') : LX t M M' := ⟨h.sub (fun r hr => by simp only [List.mem_cons, List.not_mem_nil, or_false] at hr ⊢; omega), fun k _ _ => by rw [h.i (by simp only [List.mem_cons, List.not_mem_nil, or_false]; omega)]⟩
theorem LE.x {Γ : rhG} {M M' : rhM} {t : Nat} {H : List (List Nat)} (h : LE Γ M t H) (hX : LX t M M') : LE Γ M' t H := by
  obtain ⟨h1, h2, h3, h4, h5, h6, h7⟩ := h
  refine ⟨h1, h2.fr hX.1.1, h3, by rw [hX.1.1]; exact h4, ?_, h6, ?_⟩
  · unfold CN
    rw [hX.1.l (by simp only [List.mem_cons, List.not_mem_nil, or_false]; omega)]; exact h5
  · rw [hX.1.i (by simp only [List.mem_cons, List.not_mem_nil, or_false]; omega)]; exact h7
theorem CE.cx {M M' : rhM} {t : Nat} {e : List (Nat × Nat) × Nat} (ht : t = 11 ∨ t = 22) (h : CE M t e) (hX : CX M M') : CE M' t e := h.fr hX.1 (by simp only [List.mem_cons, List.not_mem_nil, or_false]; omega) (by simp only [List.mem_cons, List.not_mem_nil, or_false]; omega) (by simp only [List.mem_cons, List.not_mem_nil, or_false]; omega)
theorem CS.e {M M' : rhM} {bs : List Int32} {s : Ps} {t : Nat} (ht : t = 11 ∨ t = 22) (h : CS M bs s) (hF : Fr [t + 6, t + 7, t + 8] M M') : CS M' bs s := by
  obtain ⟨h1, h2, h3, h4, h5, h6⟩ := h
  have n3 : 3 ∉ [t + 6, t + 7, t + 8] := by simp only [List.mem_cons, List.not_mem_nil, or_false]; omega
  refine ⟨h1.fr hF (by simp only [List.mem_cons, List.not_mem_nil, or_false]; omega) (by simp only [List.mem_cons, List.not_mem_nil, or_false]; omega) (by simp only [List.mem_cons, List.not_mem_nil, or_false]; omega), h2, by rw [hF.1]; exact h3, by rw [hF.i n3]; exact h4, fun q => by rw [hF.i n3]; exact h5 q, h6⟩
/-- the part f of a law's reader, at the depth d, reads as p does -/
def RLw (Γ : rhG) (t : Nat) (H : List (List Nat)) (bs : List Int32) (f : rhG → rhM → Nat → Int32 → Option rhM) (d : Nat) (p : Es → Es) : Prop := ∀ M s, LE Γ M t H → CS M bs s.1 → CE M t s.2 → PE s → wp (f Γ M 3 (J d)) (fun M' => LX t M M' ∧ CS M' bs (p s).1 ∧ CE M' t (p s).2)
section
variable {Γ : rhG} {t : Nat} {H : List (List Nat)} {bs : List Int32}
theorem c_stp {f : rhG → rhM → Nat → Int32 → Option rhM} {d : Nat} {p : Es → Es} (hf : RLw Γ t H bs f d p) (hq : LQ p) {M : rhM} {s : Es} (hL : LE Γ M t H) (hS : CS M bs s.1) (hE : CE M t s.2) (hP : PE s) (hg : s.1.2.1 = 0) (k : Nat) {α : Type} {K : rhM → Option α} {Q : α → Prop}
    (hK : ∀ M', LX t M M' → CS M' bs (ae k (p (eAdv bs s))).1 → CE M' t (ae k (p (eAdv bs s))).2 → PE (ae k (p (eAdv bs s))) → wp (K M') Q) :
    wp ((f_X8_advance Γ M 4).bind fun r8 => (f Γ r8 3 (J d)).bind fun r9 => rhck (Γ.2.2.1 (r9.2.2 3 11) = 2) <| (f_X1_addStep Γ r9 (r9.2.2 3 11) (J k) (0 : Int32)).bind K) Q := by
  have hG := hL.1
  have ht := hL.2.2.1
  rw [wp_bind]
  refine (c_adv hG hS).mono (fun M1 z => ?_)
  have P1 : PE (eAdv bs s) := hP
  have L1 := hL.x (LX.cx z.1)
  rw [wp_bind]
  refine (hf M1 (eAdv bs s) L1 z.2 (hE.cx ht z.1) P1).mono (fun M2 y => ?_)
  have L2 := L1.x y.1
  rw [L2.2.2.2.1.1, wp_ck_t L2.2.1.2.2.2.2.2.2.1, wp_bind]
  have hq2 := hq.2 (eAdv bs s) P1 hg
  refine (c_addStep L2.2.1 y.2.2 (by show (p (eAdv bs s)).2.1.length < 512; omega) k 0).mono (fun M3 x => ?_)
  exact hK M3 ((LX.cx z.1).trans (y.1.trans (LX.e ht x.1))) (y.2.1.e ht x.1) x.2 (hq2.2 k)
theorem c_readBoth_7 (g1 g2 g3 g4 g5 g6 g7 : rhG → rhM → Nat → Int32 → Option rhM) {d : Nat} {p : Es → Es} (hf : RLw Γ t H bs g4 d p) (hq : LQ p) : ∀ (m i n : Nat) (M : rhM) (s : Es), i + m = 40 → m < n → LE Γ M t H → CS M bs s.1 → CE M t s.2 → PE s →
    wp (f_X4_readBoth_7 g1 g2 g3 g4 g5 g6 g7 Γ n M 3 (J d) (J i)) (fun M' => LX t M M' ∧ CS M' bs (lps bs (oA bs) p m s).1 ∧ CE M' t (lps bs (oA bs) p m s).2) := by
  intro m
  induction m with
  | zero =>
    intro i n M s hi hn hL hS hE hP
    obtain ⟨n, rfl⟩ : ∃ k, n = k + 1 := ⟨n - 1, by omega⟩
    rw [f_X4_readBoth_7, wp_ite_f (by rw [show (40 : Int32) = J 40 from rfl, J_lt (by omega) (by omega) (by omega) (by omega)]; omega)]
    exact (wp_some _ _).mpr ⟨LX.refl _ _, hS, hE⟩
  | succ m ih =>
    intro i n M s hi hn hL hS hE hP
    obtain ⟨n, rfl⟩ : ∃ k, n = k + 1 := ⟨n - 1, by omega⟩
    have hG := hL.1
    have hx := qx_rng bs s.1.1
    have hle := hS.2.2.2.2.2
    rw [f_X4_readBoth_7, wp_ite_t (by rw [show (40 : Int32) = J 40 from rfl, J_lt (by omega) (by omega) (by omega) (by omega)]; omega), wp_ck_t (GKk3 hG), hS.2.2.2.1]
    by_cases c : s.1.2.1 = 0
    · rw [wp_ite_t (by rw [c]; rfl), hS.2.2.1, wp_ck_t (GKk4 hG), hS.1.2.2.2.2.1, lps, if_pos c]
      by_cases c2 : qx bs s.1.1 = 11
      · have eo : oA bs s.1.1 = some 11 := by unfold oA; rw [if_pos c2]
        rw [wp_ite_t (by rw [c2]; rfl), eo]
        refine c_stp hf hq hL hS hE hP c 11 (fun M' z1 z2 z3 z4 => ?_)
        show wp (f_X4_readBoth_7 g1 g2 g3 g4 g5 g6 g7 Γ n M' 3 (J d) (J i + 1)) _
        rw [show (1 : Int32) = J 1 from rfl, J_add, J_suc]
        exact (ih (i + 1) n M' _ (by omega) (by omega) (hL.x z1) z2 z3 z4).mono (fun M2 y => ⟨z1.trans y.1, y.2⟩)
      · have eo : oA bs s.1.1 = none := by unfold oA; rw [if_neg c2]
        rw [wp_ite_f (by rw [show (11 : Int32) = J 11 from rfl, J_eq (by omega) (by omega) (by omega) (by omega)]; exact c2), eo]
        exact (wp_some _ _).mpr ⟨LX.refl _ _, hS, hE⟩
    · rw [wp_ite_f (by rw [show (0 : Int32) = J 0 from rfl, J_eq (by omega) (by omega) (by omega) (by omega)]; omega), lps_bad c]
      exact (wp_some _ _).mpr ⟨LX.refl _ _, hS, hE⟩
theorem c_readEither_7 (g1 g2 g3 g4 g5 g6 g7 : rhG → rhM → Nat → Int32 → Option rhM) {d : Nat} {p : Es → Es} (hf : RLw Γ t H bs g1 d p) (hq : LQ p) : ∀ (m i n : Nat) (M : rhM) (s : Es), i + m = 40 → m < n → LE Γ M t H → CS M bs s.1 → CE M t s.2 → PE s →
    wp (f_X4_readEither_7 g1 g2 g3 g4 g5 g6 g7 Γ n M 3 (J d) (J i)) (fun M' => LX t M M' ∧ CS M' bs (lps bs (oO bs) p m s).1 ∧ CE M' t (lps bs (oO bs) p m s).2) := by
  intro m
  induction m with
  | zero =>
    intro i n M s hi hn hL hS hE hP
    obtain ⟨n, rfl⟩ : ∃ k, n = k + 1 := ⟨n - 1, by omega⟩
    rw [f_X4_readEither_7, wp_ite_f (by rw [show (40 : Int32) = J 40 from rfl, J_lt (by omega) (by omega) (by omega) (by omega)]; omega)]
    exact (wp_some _ _).mpr ⟨LX.refl _ _, hS, hE⟩
  | succ m ih =>
    intro i n M s hi hn hL hS hE hP
    obtain ⟨n, rfl⟩ : ∃ k, n = k + 1 := ⟨n - 1, by omega⟩
    have hG := hL.1
    have hx := qx_rng bs s.1.1
    have hle := hS.2.2.2.2.2
    rw [f_X4_readEither_7, wp_ite_t (by rw [show (40 : Int32) = J 40 from rfl, J_lt (by omega) (by omega) (by omega) (by omega)]; omega), wp_ck_t (GKk3 hG), hS.2.2.2.1]
    by_cases c : s.1.2.1 = 0
    · rw [wp_ite_t (by rw [c]; rfl), hS.2.2.1, wp_ck_t (GKk4 hG), hS.1.2.2.2.2.1, lps, if_pos c]
      by_cases c2 : qx bs s.1.1 = 10
      · have eo : oO bs s.1.1 = some 10 := by unfold oO; rw [if_pos c2]
        rw [wp_ite_t (by rw [c2]; rfl), eo]
        refine c_stp hf hq hL hS hE hP c 10 (fun M' z1 z2 z3 z4 => ?_)
        show wp (f_X4_readEither_7 g1 g2 g3 g4 g5 g6 g7 Γ n M' 3 (J d) (J i + 1)) _
        rw [show (1 : Int32) = J 1 from rfl, J_add, J_suc]
        exact (ih (i + 1) n M' _ (by omega) (by omega) (hL.x z1) z2 z3 z4).mono (fun M2 y => ⟨z1.trans y.1, y.2⟩)
      · have eo : oO bs s.1.1 = none := by unfold oO; rw [if_neg c2]
        rw [wp_ite_f (by rw [show (10 : Int32) = J 10 from rfl, J_eq (by omega) (by omega) (by omega) (by omega)]; exact c2), eo]
        exact (wp_some _ _).mpr ⟨LX.refl _ _, hS, hE⟩
    · rw [wp_ite_f (by rw [show (0 : Int32) = J 0 from rfl, J_eq (by omega) (by omega) (by omega) (by omega)]; omega), lps_bad c]
      exact (wp_some _ _).mpr ⟨LX.refl _ _, hS, hE⟩
theorem c_readTerm_15 (g1 g2 g3 g4 g5 g6 g7 : rhG → rhM → Nat → Int32 → Option rhM) {d : Nat} {p : Es → Es} (hf : RLw Γ t H bs g7 d p) (hq : LQ p) : ∀ (m i n : Nat) (M : rhM) (s : Es), i + m = 40 → m < n → LE Γ M t H → CS M bs s.1 → CE M t s.2 → PE s →
    wp (f_X4_readTerm_15 g1 g2 g3 g4 g5 g6 g7 Γ n M 3 (J d) (J (qs bs s.1.1)) (J i)) (fun M' => LX t M M' ∧ CS M' bs (lps bs (oT bs) p m s).1 ∧ CE M' t (lps bs (oT bs) p m s).2) := by
  intro m
  induction m with
  | zero =>
    intro i n M s hi hn hL hS hE hP
    obtain ⟨n, rfl⟩ : ∃ k, n = k + 1 := ⟨n - 1, by omega⟩
    rw [f_X4_readTerm_15, wp_ite_f (by rw [show (40 : Int32) = J 40 from rfl, J_lt (by omega) (by omega) (by omega) (by omega)]; omega)]
    exact (wp_some _ _).mpr ⟨LX.refl _ _, hS, hE⟩
  | succ m ih =>
    intro i n M s hi hn hL hS hE hP
    obtain ⟨n, rfl⟩ : ∃ k, n = k + 1 := ⟨n - 1, by omega⟩
    have hG := hL.1
    have hx := qs_rng hS.1.1.2.2.2.2.2.2 s.1.1
    have hle := hS.2.2.2.2.2
    rw [f_X4_readTerm_15, wp_ite_t (by rw [show (40 : Int32) = J 40 from rfl, J_lt (by omega) (by omega) (by omega) (by omega)]; omega), wp_ck_t (GKk3 hG), hS.2.2.2.1]
    by_cases c : s.1.2.1 = 0
    · rw [wp_ite_t (by rw [c]; rfl), lps, if_pos c]
      have go : ∀ k : Nat, qs bs s.1.1 = k → oT bs s.1.1 = some k → wp (f_X4_readTerm_40 g1 g2 g3 g4 g5 g6 g7 (f_X4_readTerm_15 g1 g2 g3 g4 g5 g6 g7 Γ n) Γ M 3 (J d) (J (qs bs s.1.1)) (J i)) (fun M' => LX t M M' ∧ CS M' bs (match oT bs s.1.1 with | some c => lps bs (oT bs) p m (ae c (p (eAdv bs s))) | none => s).1 ∧ CE M' t (match oT bs s.1.1 with | some c => lps bs (oT bs) p m (ae c (p (eAdv bs s))) | none => s).2) := fun k ek eo => by
        rw [eo, ek, f_X4_readTerm_40, wp_ck_t (GKk3 hG), hS.2.2.1, wp_ck_t (GKk4 hG)]
        refine c_stp hf hq hL hS hE hP c k (fun M' z1 z2 z3 z4 => ?_)
        rw [wp_ck_t (by rw [z2.2.2.1]; exact GKk4 hG), z2.2.2.1, z2.1.2.2.2.2.2.1]
        show wp (f_X4_readTerm_15 g1 g2 g3 g4 g5 g6 g7 Γ n M' 3 (J d) _ (J i + 1)) _
        rw [show (1 : Int32) = J 1 from rfl, J_add, J_suc]
        exact (ih (i + 1) n M' _ (by omega) (by omega) (hL.x z1) z2 z3 z4).mono (fun M2 y => ⟨z1.trans y.1, y.2⟩)
      by_cases c2 : qs bs s.1.1 = 42
      · rw [wp_ite_t (by rw [c2]; rfl)]
        exact go 42 c2 (by unfold oT; rw [if_pos (Or.inl c2), c2]; rfl)
      · rw [wp_ite_f (by rw [show (42 : Int32) = J 42 from rfl, J_eq (by omega) (by omega) (by omega) (by omega)]; exact c2)]
        by_cases c3 : qs bs s.1.1 = 47
        · rw [wp_ite_t (by rw [c3]; rfl)]
          exact go 47 c3 (by unfold oT; rw [if_pos (Or.inr c3), c3]; rfl)
        · have eo : oT bs s.1.1 = none := by unfold oT; rw [if_neg (fun q => q.elim c2 c3)]
          rw [wp_ite_f (by rw [show (47 : Int32) = J 47 from rfl, J_eq (by omega) (by omega) (by omega) (by omega)]; exact c3), eo]
          exact (wp_some _ _).mpr ⟨LX.refl _ _, hS, hE⟩
    · rw [wp_ite_f (by rw [show (0 : Int32) = J 0 from rfl, J_eq (by omega) (by omega) (by omega) (by omega)]; omega), lps_bad c]
      exact (wp_some _ _).mpr ⟨LX.refl _ _, hS, hE⟩
theorem c_readSum_15 (g1 g2 g3 g4 g5 g6 g7 : rhG → rhM → Nat → Int32 → Option rhM) {d : Nat} {p : Es → Es} (hf : RLw Γ t H bs g6 d p) (hq : LQ p) : ∀ (m i n : Nat) (M : rhM) (s : Es), i + m = 40 → m < n → LE Γ M t H → CS M bs s.1 → CE M t s.2 → PE s →
    wp (f_X4_readSum_15 g1 g2 g3 g4 g5 g6 g7 Γ n M 3 (J d) (J (qs bs s.1.1)) (J i)) (fun M' => LX t M M' ∧ CS M' bs (lps bs (oS bs) p m s).1 ∧ CE M' t (lps bs (oS bs) p m s).2) := by
  intro m
  induction m with
  | zero =>
    intro i n M s hi hn hL hS hE hP
    obtain ⟨n, rfl⟩ : ∃ k, n = k + 1 := ⟨n - 1, by omega⟩
    rw [f_X4_readSum_15, wp_ite_f (by rw [show (40 : Int32) = J 40 from rfl, J_lt (by omega) (by omega) (by omega) (by omega)]; omega)]
    exact (wp_some _ _).mpr ⟨LX.refl _ _, hS, hE⟩
  | succ m ih =>
    intro i n M s hi hn hL hS hE hP
    obtain ⟨n, rfl⟩ : ∃ k, n = k + 1 := ⟨n - 1, by omega⟩
    have hG := hL.1
    have hx := qs_rng hS.1.1.2.2.2.2.2.2 s.1.1
    have hle := hS.2.2.2.2.2
    rw [f_X4_readSum_15, wp_ite_t (by rw [show (40 : Int32) = J 40 from rfl, J_lt (by omega) (by omega) (by omega) (by omega)]; omega), wp_ck_t (GKk3 hG), hS.2.2.2.1]
    by_cases c : s.1.2.1 = 0
    · rw [wp_ite_t (by rw [c]; rfl), lps, if_pos c]
      have go : ∀ k : Nat, qs bs s.1.1 = k → oS bs s.1.1 = some k → wp (f_X4_readSum_40 g1 g2 g3 g4 g5 g6 g7 (f_X4_readSum_15 g1 g2 g3 g4 g5 g6 g7 Γ n) Γ M 3 (J d) (J (qs bs s.1.1)) (J i)) (fun M' => LX t M M' ∧ CS M' bs (match oS bs s.1.1 with | some c => lps bs (oS bs) p m (ae c (p (eAdv bs s))) | none => s).1 ∧ CE M' t (match oS bs s.1.1 with | some c => lps bs (oS bs) p m (ae c (p (eAdv bs s))) | none => s).2) := fun k ek eo => by
        rw [eo, ek, f_X4_readSum_40, wp_ck_t (GKk3 hG), hS.2.2.1, wp_ck_t (GKk4 hG)]
        refine c_stp hf hq hL hS hE hP c k (fun M' z1 z2 z3 z4 => ?_)
        rw [wp_ck_t (by rw [z2.2.2.1]; exact GKk4 hG), z2.2.2.1, z2.1.2.2.2.2.2.1]
        show wp (f_X4_readSum_15 g1 g2 g3 g4 g5 g6 g7 Γ n M' 3 (J d) _ (J i + 1)) _
        rw [show (1 : Int32) = J 1 from rfl, J_add, J_suc]
        exact (ih (i + 1) n M' _ (by omega) (by omega) (hL.x z1) z2 z3 z4).mono (fun M2 y => ⟨z1.trans y.1, y.2⟩)
      by_cases c2 : qs bs s.1.1 = 43
      · rw [wp_ite_t (by rw [c2]; rfl)]
        exact go 43 c2 (by unfold oS; rw [if_pos (Or.inl c2), c2]; rfl)
      · rw [wp_ite_f (by rw [show (43 : Int32) = J 43 from rfl, J_eq (by omega) (by omega) (by omega) (by omega)]; exact c2)]
        by_cases c3 : qs bs s.1.1 = 45
        · rw [wp_ite_t (by rw [c3]; rfl)]
          exact go 45 c3 (by unfold oS; rw [if_pos (Or.inr c3), c3]; rfl)
        · have eo : oS bs s.1.1 = none := by unfold oS; rw [if_neg (fun q => q.elim c2 c3)]
          rw [wp_ite_f (by rw [show (45 : Int32) = J 45 from rfl, J_eq (by omega) (by omega) (by omega) (by omega)]; exact c3), eo]
          exact (wp_some _ _).mpr ⟨LX.refl _ _, hS, hE⟩
    · rw [wp_ite_f (by rw [show (0 : Int32) = J 0 from rfl, J_eq (by omega) (by omega) (by omega) (by omega)]; omega), lps_bad c]
      exact (wp_some _ _).mpr ⟨LX.refl _ _, hS, hE⟩
theorem c_readBoth (g1 g2 g3 g4 g5 g6 g7 : rhG → rhM → Nat → Int32 → Option rhM) {d : Nat} {p : Es → Es} (hf : RLw Γ t H bs g4 d p) (hq : LQ p) : RLw Γ t H bs (fun Γ M v0 v1 => f_X4_readBoth g1 g2 g3 g4 g5 g6 g7 Γ M v0 v1) d (pB bs p) := by
  intro M s hL hS hE hP
  have hbig := FU_big
  show wp (f_X4_readBoth g1 g2 g3 g4 g5 g6 g7 Γ M 3 (J d)) _
  rw [f_X4_readBoth, wp_ck_t (GKk3 hL.1), wp_bind]
  refine (hf M s hL hS hE hP).mono (fun M1 z => ?_)
  exact (c_readBoth_7 g1 g2 g3 g4 g5 g6 g7 hf hq 40 0 rhFU M1 (p s) (by omega) (by omega) (hL.x z.1) z.2.1 z.2.2 (hq.1 s hP)).mono (fun M2 y => ⟨z.1.trans y.1, y.2⟩)
theorem c_readEither (g1 g2 g3 g4 g5 g6 g7 : rhG → rhM → Nat → Int32 → Option rhM) {d : Nat} {p : Es → Es} (hf : RLw Γ t H bs g1 d (pB bs p)) (hq : LQ (pB bs p)) : RLw Γ t H bs (fun Γ M v0 v1 => f_X4_readEither g1 g2 g3 g4 g5 g6 g7 Γ M v0 v1) d (pE bs p) := by
  intro M s hL hS hE hP
  have hbig := FU_big
  show wp (f_X4_readEither g1 g2 g3 g4 g5 g6 g7 Γ M 3 (J d)) _
  rw [f_X4_readEither, wp_ck_t (GKk3 hL.1), wp_bind]
  refine (hf M s hL hS hE hP).mono (fun M1 z => ?_)
  exact (c_readEither_7 g1 g2 g3 g4 g5 g6 g7 hf hq 40 0 rhFU M1 ((pB bs p) s) (by omega) (by omega) (hL.x z.1) z.2.1 z.2.2 (hq.1 s hP)).mono (fun M2 y => ⟨z.1.trans y.1, y.2⟩)
theorem c_readTerm (g1 g2 g3 g4 g5 g6 g7 : rhG → rhM → Nat → Int32 → Option rhM) {d : Nat} {p : Es → Es} (hf : RLw Γ t H bs g7 d p) (hq : LQ p) : RLw Γ t H bs (fun Γ M v0 v1 => f_X4_readTerm g1 g2 g3 g4 g5 g6 g7 Γ M v0 v1) d (pT bs p) := by
  intro M s hL hS hE hP
  have hbig := FU_big
  show wp (f_X4_readTerm g1 g2 g3 g4 g5 g6 g7 Γ M 3 (J d)) _
  rw [f_X4_readTerm, wp_ck_t (GKk3 hL.1), wp_bind]
  refine (hf M s hL hS hE hP).mono (fun M1 z => ?_)
  rw [wp_ck_t (by rw [z.2.1.2.2.1]; exact GKk4 hL.1), z.2.1.2.2.1, z.2.1.1.2.2.2.2.2.1]
  exact (c_readTerm_15 g1 g2 g3 g4 g5 g6 g7 hf hq 40 0 rhFU M1 (p s) (by omega) (by omega) (hL.x z.1) z.2.1 z.2.2 (hq.1 s hP)).mono (fun M2 y => ⟨z.1.trans y.1, y.2⟩)
theorem c_readSum (g1 g2 g3 g4 g5 g6 g7 : rhG → rhM → Nat → Int32 → Option rhM) {d : Nat} {p : Es → Es} (hf : RLw Γ t H bs g6 d (pT bs p)) (hq : LQ (pT bs p)) : RLw Γ t H bs (fun Γ M v0 v1 => f_X4_readSum g1 g2 g3 g4 g5 g6 g7 Γ M v0 v1) d (pS bs p) := by
  intro M s hL hS hE hP
  have hbig := FU_big
  show wp (f_X4_readSum g1 g2 g3 g4 g5 g6 g7 Γ M 3 (J d)) _
  rw [f_X4_readSum, wp_ck_t (GKk3 hL.1), wp_bind]
  refine (hf M s hL hS hE hP).mono (fun M1 z => ?_)
  rw [wp_ck_t (by rw [z.2.1.2.2.1]; exact GKk4 hL.1), z.2.1.2.2.1, z.2.1.1.2.2.2.2.2.1]
  exact (c_readSum_15 g1 g2 g3 g4 g5 g6 g7 hf hq 40 0 rhFU M1 ((pT bs p) s) (by omega) (by omega) (hL.x z.1) z.2.1 z.2.2 (hq.1 s hP)).mono (fun M2 y => ⟨z.1.trans y.1, y.2⟩)
end
