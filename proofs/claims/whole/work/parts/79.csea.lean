/-! THE CLASS'S SEARCH -/
theorem Fr.rsr {W : List Nat} {M M' : rhM} (h : Fr W M M') (r k v : Nat) : Fr W (rhsr M r k v) (rhsr M' r k v) :=
  ⟨by show (fun a j => if a = r ∧ j = k then v else M'.2.2 a j) = _; rw [h.1]; rfl, h.2⟩
/-- a search: its object S, what it has found F, numbers from S + 7 on, permits from S + 11 on, its stand from S + 13 on -/
def SSh (Γ : rhG) (M : rhM) (S F cp Ln : Nat) : Prop := Γ.2.2.1 S = 6 ∧ (M.2.2 S 1 = F ∧ M.2.2 S 2 = S + 7 ∧ M.2.2 S 3 = S + 11 ∧ M.2.2 S 4 = S + 13) ∧ NSh Γ M (S + 7) ∧ SS Γ M (S + 13) ∧ FSh Γ M F cp ∧ (Γ.2.2.1 (S + 11) = 3 ∧ M.2.2 (S + 11) 0 = S + 12 ∧ Γ.2.2.1 (S + 12) = 15 ∧ Γ.2.2.2 (S + 12) = Ln) ∧ (F = S + 1 ∨ S + 22 < F) ∧ 182 < S ∧ cp ≤ 60480 ∧ Ln < 900000000
theorem SSh.xb {Γ : rhG} {M : rhM} {S F cp Ln : Nat} (h : SSh Γ M S F cp Ln) : xb (S + 13) = S + 20 := xb_big (by have := h.2.2.2.2.2.2.2.1; omega)
/-- what is sought: 0 a row, 1 a house alone, 2 worth -/
abbrev Md : Type := Nat × List Nat × Nat
def pM (md : Md) (L : Ar) : Prop := if md.1 = 0 then md.2.1 <+: rl L 0 else if md.1 = 1 then pA md.2.2 L else False
/-- the number of the best -/
def bst (T : Tn) (l : List Ar) : Int := if (bestF T l).1 = -1 then -1 else (nm (tR T) (tH T) (l.getD (bestF T l).1.toNat []) : Nat)
def BM (M : rhM) (S : Nat) (T : Tn) (md : Md) (l : List Ar) : Prop := M.1 S 6 = J md.1 ∧ md.1 ≤ 2 ∧ (md.1 = 0 → M.2.1 S 7 = jl (dg md.2.1) ∧ M.2.1 S 8 = jl (2 ^ (4 * md.2.1.length) - 1) ∧ (∀ z, z ∈ md.2.1 → z < 8) ∧ md.2.1.length ≤ tH T) ∧ (md.1 = 1 → M.1 S 9 = J md.2.2 ∧ md.2.2 < tH T) ∧
  M.1 S 10 = J (if md.1 = 2 then bst T l else -1) ∧ M.1 S 0 = J (if md.1 = 2 then (bestF T l).2.1 else 0)
section
variable {Γ : rhG} {M : rhM} {T : Tn} {S t : Nat} {md : Md}
theorem c_alone24 (hk : Γ.2.2.1 S = 6) {h : Nat} (hh : h < 8) (h10 : M.1 S 9 = J h) {D : List Nat} (h16 : ∀ x, x ∈ D → x < 16) (hl : D.length ≤ 15) : ∀ (l : List Nat) (n i : Nat) (v : Nat), v ≤ 1 → 1 ≤ i → D.drop (i - 1) = l → i ≤ D.length + 1 → l.length + 1 < n →
    f_X5_isAlone_24 Γ M n S (jl (dg D)) (J D.length) (J v) (J i) = some (if adjB h l = true then 0 else J v) := by
  intro l
  induction l with
  | nil =>
    intro n i v hv hi hd hi2 hn
    obtain ⟨n, rfl⟩ : ∃ k, n = k + 1 := ⟨n - 1, by omega⟩
    have hlen := congrArg List.length hd
    rw [List.length_drop] at hlen
    simp only [List.length_nil] at hlen
    have hv2 : J v = J 0 ∨ J v = J 1 := by
      have : v = 0 ∨ v = 1 := by omega
      rcases this with rfl | rfl
      · exact Or.inl rfl
      · exact Or.inr rfl
    apply wp_eq
    rw [f_X5_isAlone_24]
    simp (disch := omega) only [wp_some, wp_ck_T, wp_ck_t, wp_bind, wp_ite_t, wp_ite_f, J_lit, J_neg, J_add, J_sub, J_mul, J_lt, J_le, J_eq, J_toInt, J_clamp, J_suc, si_1, si_2, sl_1, sl_2, sl_3, Int.toNat_natCast, Int.reduceToNat, Nat.add_sub_cancel, Int.toNat_add, Int.toNat_mul, Int.toNat_sub'', true_and, and_true, and_self, if_true, if_false, not_true, not_false_eq_true, adjB]
    simp
  | cons a l ih =>
    intro n i v hv hi hd hi2 hn
    rw [List.length_cons] at hn
    obtain ⟨n, rfl⟩ : ∃ k, n = k + 1 := ⟨n - 1, by omega⟩
    have hlen := congrArg List.length hd
    rw [List.length_drop, List.length_cons] at hlen
    have hnext : D.drop i = l := by
      have := congrArg (List.drop 1) hd
      rw [List.drop_drop, show i - 1 + 1 = i by omega] at this; simpa using this
    cases l with
    | nil =>
      simp only [List.length_nil] at hlen
      have hv2 : J v = J 0 ∨ J v = J 1 := by
        have : v = 0 ∨ v = 1 := by omega
        rcases this with rfl | rfl
        · exact Or.inl rfl
        · exact Or.inr rfl
      apply wp_eq
      rw [f_X5_isAlone_24]
      simp (disch := omega) only [wp_some, wp_ck_T, wp_ck_t, wp_bind, wp_ite_t, wp_ite_f, J_lit, J_neg, J_add, J_sub, J_mul, J_lt, J_le, J_eq, J_toInt, J_clamp, J_suc, si_1, si_2, sl_1, sl_2, sl_3, Int.toNat_natCast, Int.reduceToNat, Nat.add_sub_cancel, Int.toNat_add, Int.toNat_mul, Int.toNat_sub'', true_and, and_true, and_self, if_true, if_false, not_true, not_false_eq_true, adjB]
      simp
    | cons b l =>
      rw [List.length_cons] at hlen hn
      have ga : D.getD (i - 1) 0 = a := by
        have := gd_drop (a := D) (n := i - 1) (k := 0) 0
        rw [hd, Nat.add_zero] at this; rw [← this]; rfl
      have gb : D.getD i 0 = b := by
        have := gd_drop (a := D) (n := i) (k := 0) 0
        rw [hnext, Nat.add_zero] at this; rw [← this]; rfl
      have d1 := c_digit (Γ := Γ) (M := M) h16 hl (i := i - 1) (by omega)
      have d2 := c_digit (Γ := Γ) (M := M) h16 hl (i := i) (by omega)
      rw [ga] at d1
      rw [gb] at d2
      have a16 := gd16 h16 (i - 1)
      have b16 := gd16 h16 i
      rw [ga] at a16
      rw [gb] at b16
      have i1 := ih n (i + 1) v hv (by omega) (by rw [Nat.add_sub_cancel]; exact hnext) (by omega) (by rw [List.length_cons]; omega)
      have i0 := ih n (i + 1) 0 (by omega) (by omega) (by rw [Nat.add_sub_cancel]; exact hnext) (by omega) (by rw [List.length_cons]; omega)
      have e1 : ((i : Nat) : Int) - 1 = ((i - 1 : Nat) : Int) := by omega
      have e0 : (if adjB h (b :: l) = true then (0 : Int32) else J ((0 : Nat) : Int)) = 0 := by split <;> rfl
      rw [e0] at i0
      rw [show J ((0 : Nat) : Int) = J 0 from rfl, show (0 : Int32) = J 0 from rfl] at i0
      rw [show (0 : Int32) = J 0 from rfl] at i1 ⊢
      apply wp_eq
      rw [f_X5_isAlone_24]
      rw [adjB]
      by_cases c1 : a = h
      · by_cases c2 : b = 8
        · have q : ((a == h && b != 8) || (b == h && a != 8)) = false := by
            rw [c2, c1]; simp; omega
          rw [q, Bool.false_or]
          simp (disch := omega) only [wp_some, wp_ck_T, wp_ck_t, wp_bind, wp_ite_t, wp_ite_f, J_lit, J_neg, J_add, J_sub, J_mul, J_lt, J_le, J_eq, J_toInt, J_clamp, J_suc, si_1, si_2, sl_1, sl_2, sl_3, Int.toNat_natCast, Int.reduceToNat, Nat.add_sub_cancel, Int.toNat_add, Int.toNat_mul, Int.toNat_sub'', true_and, and_true, and_self, if_true, if_false, not_true, not_false_eq_true, e1, d1, d2, hk, h10, f_X5_isAlone_64, f_X5_isAlone_80, f_X5_isAlone_83, i1, i0]
        · have q : ((a == h && b != 8) || (b == h && a != 8)) = true := by
            have : (b != 8) = true := by simp [c2]
            rw [c1, this]; simp
          rw [q, Bool.true_or, if_pos rfl]
          simp (disch := omega) only [wp_some, wp_ck_T, wp_ck_t, wp_bind, wp_ite_t, wp_ite_f, J_lit, J_neg, J_add, J_sub, J_mul, J_lt, J_le, J_eq, J_toInt, J_clamp, J_suc, si_1, si_2, sl_1, sl_2, sl_3, Int.toNat_natCast, Int.reduceToNat, Nat.add_sub_cancel, Int.toNat_add, Int.toNat_mul, Int.toNat_sub'', true_and, and_true, and_self, if_true, if_false, not_true, not_false_eq_true, e1, d1, d2, hk, h10, f_X5_isAlone_64, f_X5_isAlone_80, f_X5_isAlone_83, i1, i0]
      · by_cases c3 : b = h
        · by_cases c4 : a = 8
          · have q : ((a == h && b != 8) || (b == h && a != 8)) = false := by
              rw [c3, c4]; simp; omega
            rw [q, Bool.false_or]
            simp (disch := omega) only [wp_some, wp_ck_T, wp_ck_t, wp_bind, wp_ite_t, wp_ite_f, J_lit, J_neg, J_add, J_sub, J_mul, J_lt, J_le, J_eq, J_toInt, J_clamp, J_suc, si_1, si_2, sl_1, sl_2, sl_3, Int.toNat_natCast, Int.reduceToNat, Nat.add_sub_cancel, Int.toNat_add, Int.toNat_mul, Int.toNat_sub'', true_and, and_true, and_self, if_true, if_false, not_true, not_false_eq_true, e1, d1, d2, hk, h10, f_X5_isAlone_64, f_X5_isAlone_80, f_X5_isAlone_83, i1, i0]
          · have q : ((a == h && b != 8) || (b == h && a != 8)) = true := by
              have : (a != 8) = true := by simp [c4]
              rw [c3, this]; simp
            rw [q, Bool.true_or, if_pos rfl]
            simp (disch := omega) only [wp_some, wp_ck_T, wp_ck_t, wp_bind, wp_ite_t, wp_ite_f, J_lit, J_neg, J_add, J_sub, J_mul, J_lt, J_le, J_eq, J_toInt, J_clamp, J_suc, si_1, si_2, sl_1, sl_2, sl_3, Int.toNat_natCast, Int.reduceToNat, Nat.add_sub_cancel, Int.toNat_add, Int.toNat_mul, Int.toNat_sub'', true_and, and_true, and_self, if_true, if_false, not_true, not_false_eq_true, e1, d1, d2, hk, h10, f_X5_isAlone_64, f_X5_isAlone_80, f_X5_isAlone_83, i1, i0]
        · have q : ((a == h && b != 8) || (b == h && a != 8)) = false := by
            have z1 : (a == h) = false := by simp [c1]
            have z2 : (b == h) = false := by simp [c3]
            rw [z1, z2]; rfl
          rw [q, Bool.false_or]
          simp (disch := omega) only [wp_some, wp_ck_T, wp_ck_t, wp_bind, wp_ite_t, wp_ite_f, J_lit, J_neg, J_add, J_sub, J_mul, J_lt, J_le, J_eq, J_toInt, J_clamp, J_suc, si_1, si_2, sl_1, sl_2, sl_3, Int.toNat_natCast, Int.reduceToNat, Nat.add_sub_cancel, Int.toNat_add, Int.toNat_mul, Int.toNat_sub'', true_and, and_true, and_self, if_true, if_false, not_true, not_false_eq_true, e1, d1, d2, hk, h10, f_X5_isAlone_64, f_X5_isAlone_80, f_X5_isAlone_83, i1, i0]
theorem c_isAlone {L : Ar} (hk : Γ.2.2.1 S = 6) (hT6 : M.2.2 S 5 = t) (ht : Γ.2.2.1 t = 10) (hT : TC M t T) (hw : TWf T) (wL : WA (tR T) (tH T) L) (hRH : 0 < tH T → 0 < tR T) {h : Nat} (hh : h < tH T) (h10 : M.1 S 9 = J h) : f_X5_isAlone Γ M S (jl (wn L)) = some (bi (pA h L)) := by
  have w1 := hw.1
  have w2 := hw.2.1
  have hl := dgs_len wL
  have h16 := dgs_16 wL w2
  have h0 := hT.1
  have h1 := hT.2.1
  have hR := hRH (by omega)
  have := c_alone24 (Γ := Γ) (M := M) hk (show h < 8 by omega) h10 h16 (by omega) (dgs L) rhFU 1 1 (by omega) (by omega) rfl (by omega) (by have := FU_big2; omega)
  have e : (tH T : Int) + tR T - 1 = (((dgs L).length : Nat) : Int) := by rw [hl]; omega
  have hb := adjB_dgs wL w2 (show h < 8 by omega)
  have e2 : (if adjB h (dgs L) = true then (0 : Int32) else J ((1 : Nat) : Int)) = bi (pA h L) := by
    cases hc : adjB h (dgs L) with
    | true => rw [if_pos rfl, bi_f]; intro h2; rw [hb.mpr h2] at hc; cases hc
    | false => rw [if_neg (by decide), bi_t (hb.mp hc)]; rfl
  rw [e2] at this
  rw [show J ((1 : Nat) : Int) = J 1 from rfl] at this
  unfold wn
  apply wp_eq
  rw [f_X5_isAlone]
  simp (disch := omega) only [wp_some, wp_ck_T, wp_ck_t, wp_bind, wp_ite_t, wp_ite_f, J_lit, J_neg, J_add, J_sub, J_mul, J_lt, J_le, J_eq, J_toInt, J_clamp, J_suc, si_1, si_2, sl_1, sl_2, sl_3, Int.toNat_natCast, Int.reduceToNat, Nat.add_sub_cancel, Int.toNat_add, Int.toNat_mul, Int.toNat_sub'', true_and, and_true, and_self, if_true, if_false, not_true, not_false_eq_true, hk, hT6, ht, h0, h1, e, this]
theorem c_keepBest (hk : Γ.2.2.1 S = 6) {b w n : Int} {k : Nat} (hb : -1 ≤ b) (hb2 : b < 2147483648) (hw : -800 ≤ w) (hw2 : w ≤ 800) (hx : -800 ≤ n) (hx2 : n ≤ 800) (h11 : M.1 S 10 = J b) (h1 : M.1 S 0 = J w) (Q : rhM → Prop)
    (hQ : ∀ M', Fr [S] M M' → (∀ j, j ≠ 0 → j ≠ 10 → M'.1 S j = M.1 S j) → M'.2.1 S = M.2.1 S → M'.1 S 10 = J (if b = -1 ∨ w < n then (k : Int) else b) → M'.1 S 0 = J (if b = -1 ∨ w < n then n else w) → Q M') :
    wp (f_X5_keepBest Γ M S (J k) (J n)) Q := by
  have fin : wp (f_X5_keepBest_16 Γ M S (J k) (J n)) (fun M' => M' = rhsi (rhsi M S 10 (J k)) S 0 (J n)) := by
    rw [f_X5_keepBest_16, wp_ck_t hk, wp_some]
  have yes : (b = -1 ∨ w < n) → wp (f_X5_keepBest_16 Γ M S (J k) (J n)) Q := by
    intro hc
    refine fin.mono (fun M' e => ?_)
    rw [e]
    refine hQ _ (((Fr.refl _ _).si (by simp) _ _).si (by simp) _ _) (fun j h1 h11 => ?_) rfl ?_ ?_
    · rw [si_1, si_1, if_neg (by omega), if_neg (by omega)]
    · rw [if_pos hc, si_1, si_1, if_neg (by omega), if_pos ⟨rfl, rfl⟩]
    · rw [if_pos hc, si_1, if_pos ⟨rfl, rfl⟩]
  rw [f_X5_keepBest, wp_ck_t hk, h11, h1, show (-1 : Int32) = J (-1) from rfl]
  by_cases c1 : b = -1
  · rw [wp_ite_t (by rw [c1])]; exact yes (Or.inl c1)
  · rw [wp_ite_f (by rw [J_eq (by omega) (by omega) (by omega) (by omega)]; exact c1)]
    by_cases c2 : w < n
    · rw [wp_ite_t (by rw [J_lt (by omega) (by omega) (by omega) (by omega)]; exact c2)]; exact yes (Or.inr c2)
    · rw [wp_ite_f (by rw [J_lt (by omega) (by omega) (by omega) (by omega)]; exact c2), wp_some]
      refine hQ M (Fr.refl _ _) (fun _ _ _ => rfl) rfl ?_ ?_
      · rw [if_neg (by omega)]; exact h11
      · rw [if_neg (by omega)]; exact h1
theorem bst_rng {l : List Ar} (hw : TWf T) (hRH : 0 < tH T → 0 < tR T) (hv : ∀ L, L ∈ l → WA (tR T) (tH T) L) : (-1 ≤ bst T l ∧ bst T l < ways (tR T) (tH T) + 1) ∧ (bst T l = -1 ↔ (bestF T l).1 = -1) := by
  unfold bst
  by_cases c : (bestF T l).1 = -1
  · rw [if_pos c]; exact ⟨by omega, fun _ => c, fun _ => rfl⟩
  · rw [if_neg c]
    refine ⟨?_, fun h => by omega, fun h => absurd h c⟩
    obtain ⟨⟨x1, x2⟩, x3, x4⟩ := bestF_rng hw hRH l hv
    have hlt : (bestF T l).1.toNat < l.length := by
      -- the best's place is one of the list
      have key : ∀ n (l : List Ar), l.length = n → (∀ L, L ∈ l → WA (tR T) (tH T) L) → (bestF T l).1 = -1 ∨ (bestF T l).1 < l.length := by
        intro n
        induction n with
        | zero => intro l hl _; rw [List.length_eq_zero_iff.mp hl]; exact Or.inl rfl
        | succ n ih =>
          intro l hl hv
          rcases List.eq_nil_or_concat l with rfl | ⟨l', x, rfl⟩
          · simp at hl
          · rw [List.concat_eq_append] at *
            rw [List.length_append, List.length_singleton] at *
            have h1 := ih l' (by omega) (fun L hL => hv L (List.mem_append_left _ hL))
            have h2 := (bestF_rng hw hRH l' (fun L hL => hv L (List.mem_append_left _ hL))).2.2
            rw [bestF_snoc]
            unfold bestS
            split
            · right; dsimp only; rw [h2]; omega
            · rename_i hn
              right
              dsimp only
              rcases h1 with h1 | h1
              · exact absurd (Or.inl h1) hn
              · omega
      rcases key _ l rfl hv with h | h
      · exact absurd h c
      · omega
    have := nm_lt (hv _ (gd_mem [] hlt)) hw.2.1 hRH
    omega
theorem bst_snoc {l : List Ar} {L : Ar} (hw : TWf T) (hRH : 0 < tH T → 0 < tR T) (hv : ∀ L, L ∈ l → WA (tR T) (tH T) L) : bst T (l ++ [L]) = if bst T l = -1 ∨ (bestF T l).2.1 < worth T L then ((nm (tR T) (tH T) L : Nat) : Int) else bst T l := by
  have hb := (bst_rng hw hRH hv).2
  obtain ⟨⟨x1, x2⟩, -, x4⟩ := bestF_rng hw hRH l hv
  by_cases c : (bestF T l).1 = -1 ∨ (bestF T l).2.1 < worth T L
  · have c' : bst T l = -1 ∨ (bestF T l).2.1 < worth T L := c.imp hb.mpr id
    rw [if_pos c']
    unfold bst
    rw [bestF_snoc]
    unfold bestS
    rw [if_pos c]
    dsimp only
    rw [x4, if_neg (by omega), Int.toNat_natCast, gd_r _ (Nat.le_refl _), Nat.sub_self]; rfl
  · have c' : ¬ (bst T l = -1 ∨ (bestF T l).2.1 < worth T L) := fun h => c (h.imp hb.mp id)
    rw [if_neg c']
    have c1 : ¬ (bestF T l).1 = -1 := fun h => c (Or.inl h)
    unfold bst
    rw [bestF_snoc]
    unfold bestS
    rw [if_neg c]
    dsimp only
    rw [if_neg c1, if_neg c1]
    by_cases c2 : (bestF T l).1.toNat < l.length
    · rw [gd_l _ c2]
    · -- the place is the list's length at most, and then nothing was kept
      exfalso
      have key : ∀ n (l : List Ar), l.length = n → (∀ L, L ∈ l → WA (tR T) (tH T) L) → (bestF T l).1 = -1 ∨ (bestF T l).1 < l.length := by
        intro n
        induction n with
        | zero => intro l hl _; rw [List.length_eq_zero_iff.mp hl]; exact Or.inl rfl
        | succ n ih =>
          intro l hl hv
          rcases List.eq_nil_or_concat l with rfl | ⟨l', x, rfl⟩
          · simp at hl
          · rw [List.concat_eq_append] at *
            rw [List.length_append, List.length_singleton] at *
            have h1 := ih l' (by omega) (fun L hL => hv L (List.mem_append_left _ hL))
            have h2 := (bestF_rng hw hRH l' (fun L hL => hv L (List.mem_append_left _ hL))).2.2
            rw [bestF_snoc]
            unfold bestS
            split
            · right; dsimp only; rw [h2]; omega
            · rename_i hn
              right
              dsimp only
              rcases h1 with h1 | h1
              · exact absurd (Or.inl h1) hn
              · omega
      rcases key _ l rfl hv with h | h
      · exact c1 h
      · omega
theorem c_isMet (hk : Γ.2.2.1 S = 6) (hT5 : M.2.2 S 5 = t) (hts : TSh Γ M t) (hT : TC M t T) (hw : TWf T) (hRH : 0 < tH T → 0 < tR T) (h60 : ways (tR T) (tH T) ≤ 60480) {l : List Ar} (hv : ∀ L, L ∈ l → WA (tR T) (tH T) L) {L : Ar} (wL : WA (tR T) (tH T) L) (hB : BM M S T md l) (Q : Int32 × rhM → Prop)
    (hQ : ∀ M', Fr [S] M M' → (∀ j, j ≠ 0 → j ≠ 10 → M'.1 S j = M.1 S j) → M'.2.1 S = M.2.1 S → BM M' S T md (l ++ [L]) → Q (bi (pM md L), M')) :
    wp (f_X5_isMet Γ M S (J (nm (tR T) (tH T) L : Nat)) (jl (wn L))) Q := by
  obtain ⟨b7, bmd, b0, b1, b11, bb1⟩ := hB
  have hW := c_worthOf (Γ := Γ) hts hT hw wL hRH
  rw [f_X5_isMet, wp_ck_t hk, b7, show (0 : Int32) = J 0 from rfl, show (1 : Int32) = J 1 from rfl]
  have hmd : md.1 = 0 ∨ md.1 = 1 ∨ md.1 = 2 := by omega
  rcases hmd with e | e | e
  · obtain ⟨h8, h9, hg8, hgl⟩ := b0 e
    have hg := goal_met wL hw.1 hw.2.1 hRH hg8 hgl
    rw [wp_ite_t (by rw [e]; rfl), h8, h9]
    have key : Q (bi (pM md L), M) := by
      refine hQ M (Fr.refl _ _) (fun _ _ _ => rfl) rfl ⟨b7, bmd, b0, b1, ?_, ?_⟩
      · rw [if_neg (by omega)]; rw [if_neg (by omega)] at b11; exact b11
      · rw [if_neg (by omega)]; rw [if_neg (by omega)] at bb1; exact bb1
    by_cases c : md.2.1 <+: rl L 0
    · rw [wp_ite_t (hg.mpr c), wp_some]
      rw [bi_t (by unfold pM; rw [if_pos e]; exact c)] at key; exact key
    · rw [wp_ite_f (fun h => c (hg.mp h)), wp_some]
      rw [bi_f (by unfold pM; rw [if_pos e]; exact c)] at key; exact key
  · obtain ⟨h10, hh⟩ := b1 e
    have hA := c_isAlone hk hT5 hts.1 hT hw wL hRH hh h10
    rw [wp_ite_f (by rw [e]; decide), wp_ite_t (by rw [e]; rfl), hA, wp_bind, wp_some]
    have h01 : bi (pA md.2.2 L) = J 0 ∨ bi (pA md.2.2 L) = J 1 := by
      by_cases c : pA md.2.2 L
      · exact Or.inr (bi_t c)
      · exact Or.inl (bi_f c)
    rw [wp_ck_t h01, wp_some]
    have ep : pM md L = pA md.2.2 L := by unfold pM; rw [if_neg (by omega), if_pos e]
    rw [← ep]
    refine hQ M (Fr.refl _ _) (fun _ _ _ => rfl) rfl ⟨b7, bmd, b0, b1, ?_, ?_⟩
    · rw [if_neg (by omega)]; rw [if_neg (by omega)] at b11; exact b11
    · rw [if_neg (by omega)]; rw [if_neg (by omega)] at bb1; exact bb1
  · rw [wp_ite_f (by rw [e]; decide), wp_ite_f (by rw [e]; decide), hT5, wp_ck_t hts.1, hW, wp_bind, wp_some, wp_bind]
    rw [if_pos e] at b11 bb1
    obtain ⟨-, ⟨x3, x4⟩, -⟩ := bestF_rng hw hRH l hv
    obtain ⟨⟨x1, x2⟩, -⟩ := bst_rng hw hRH hv
    have x6 := worth_rng hw wL hRH
    refine c_keepBest hk (b := bst T l) (w := (bestF T l).2.1) (n := worth T L) (k := nm (tR T) (tH T) L) x1 (by omega) x3 x4 x6.1 x6.2 b11 bb1 _ (fun M' y1 y2 y3 y4 y5 => ?_)
    rw [wp_some]
    have ep : ¬ pM md L := by unfold pM; rw [if_neg (by omega), if_neg (by omega)]; exact id
    have hbi := (bst_rng hw hRH hv).2
    have := hQ M' y1 y2 y3 ⟨(y2 6 (by decide) (by decide)).trans b7, bmd, fun h => by omega, fun h => by omega, ?_, ?_⟩
    · rw [bi_f ep] at this; exact this
    · rw [if_pos e, y4, bst_snoc hw hRH hv]
    · rw [if_pos e, bestF_snoc, y5]
      unfold bestS
      by_cases c : (bestF T l).1 = -1 ∨ (bestF T l).2.1 < worth T L
      · rw [if_pos (c.imp hbi.mpr id), if_pos c]
      · rw [if_neg (fun h => c (h.imp hbi.mp id)), if_neg c]
end
