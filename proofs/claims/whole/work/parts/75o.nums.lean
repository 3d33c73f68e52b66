/-! THE CLASS'S NUMBERS OF STATES -/
theorem cl_le {H' H S : Nat} (h : H' ≤ H) (hS : S < 2 ^ H') : cl H S = cl H' S := by
  obtain ⟨d, rfl⟩ : ∃ d, H = H' + d := ⟨H - H', by omega⟩
  rw [cl, List.range_add, List.filter_append, cl]
  suffices h : ((List.range d).map fun x => H' + x).filter (fun h => S.testBit h) = [] by rw [h, List.append_nil]
  rw [List.filter_eq_nil_iff]
  intro a ha
  rw [List.mem_map] at ha
  obtain ⟨b, -, rfl⟩ := ha
  rw [Nat.testBit_lt_two_pow (Nat.lt_of_lt_of_le hS (Nat.pow_le_pow_right (by decide) (by omega)))]
  decide
theorem cl_top {H h S : Nat} (hh : h < H) (hS : S < 2 ^ h) : cl H (2 ^ h + S) = cl H S ++ [h] := by
  have h1 : 2 ^ h + S < 2 ^ (h + 1) := by rw [Nat.pow_succ]; omega
  rw [cl_le (show h + 1 ≤ H by omega) h1, cl_le (show h ≤ H by omega) hS, cl, cl, List.range_succ, List.filter_append]
  have e1 : (List.range h).filter (fun i => (2 ^ h + S).testBit i) = (List.range h).filter (fun i => S.testBit i) := by
    apply List.filter_congr
    intro i hi
    rw [Nat.testBit_two_pow_add_gt (List.mem_range.mp hi)]
  rw [e1, List.filter_cons, Nat.testBit_two_pow_add_eq, Nat.testBit_lt_two_pow hS]; rfl
theorem cl_low (H X h : Nat) : (cl H X).filter (fun x => decide (x < h)) = cl H (X % 2 ^ h) := by
  unfold cl
  rw [List.filter_filter]
  apply List.filter_congr
  intro i _
  rw [Nat.testBit_mod_two_pow]
theorem cl_high (H X h : Nat) : (cl H X).filter (fun x => decide (h < x)) = cl H (X / 2 ^ (h + 1) * 2 ^ (h + 1)) := by
  unfold cl
  rw [List.filter_filter]
  apply List.filter_congr
  intro i _
  rw [Nat.testBit_mul_two_pow, Nat.testBit_div_two_pow]
  by_cases c : h < i
  · rw [show i - (h + 1) + (h + 1) = i by omega]
    have : decide (h + 1 ≤ i) = decide (h < i) := by rw [decide_eq_decide]; omega
    rw [this]
  · have e1 : decide (h < i) = false := by simpa using c
    have e2 : decide (h + 1 ≤ i) = false := by simp; omega
    rw [e1, e2]; rfl
theorem cl_0 (H : Nat) : cl H 0 = [] := by
  unfold cl; rw [List.filter_eq_nil_iff]; intro a _; simp
theorem tvL_nil (g : Nat → Nat) (P : List Nat) : tvL g [] P = 0 := by unfold tvL; simp [sm]
theorem tvL_snoc (g : Nat → Nat) (B P : List Nat) (h : Nat) : tvL g (B ++ [h]) P = tvL g B P + ((g h : Int) * ((P.filter fun x => decide (x < h)).length : Nat)) - ((sm g (P.filter fun x => decide (h < x)) : Nat) : Int) := by
  unfold tvL
  rw [sm_app, sm_app, sm_cons, sm_cons, sm_nil, sm_nil]
  have : ((g h * (P.filter fun x => decide (x < h)).length : Nat) : Int) = (g h : Int) * ((P.filter fun x => decide (x < h)).length : Nat) := by simp
  rw [← this]
  generalize g h * (P.filter fun x => decide (x < h)).length = a
  omega
theorem tvL_perm (g : Nat → Nat) {B B' P P' : List Nat} (hB : B.Perm B') (hP : P.Perm P') : tvL g B P = tvL g B' P' := by
  unfold tvL
  have e1 : (fun h => g h * (P.filter fun x => decide (x < h)).length) = fun h => g h * (P'.filter fun x => decide (x < h)).length := by
    funext h; rw [(hP.filter _).length_eq]
  have e2 : (fun b => sm g (P.filter fun x => decide (b < x))) = fun b => sm g (P'.filter fun x => decide (b < x)) := by
    funext b; exact sm_perm g (hP.filter _)
  rw [e1, e2, sm_perm _ hB, sm_perm _ hB]
def NSh (Γ : rhG) (M : rhM) (n : Nat) : Prop := Γ.2.2.1 n = 11 ∧ (Γ.2.2.1 (n + 1) = 15 ∧ Γ.2.2.2 (n + 1) = 6) ∧ (Γ.2.2.1 (n + 2) = 15 ∧ Γ.2.2.2 (n + 2) = 64) ∧ (Γ.2.2.1 (n + 3) = 15 ∧ Γ.2.2.2 (n + 3) = 4096) ∧ M.2.2 n 2 = n + 1 ∧ M.2.2 n 3 = n + 2 ∧ M.2.2 n 4 = n + 3
theorem NSh.fr {Γ : rhG} {M M' : rhM} {n : Nat} (h : NSh Γ M n) (hF : M'.2.2 = M.2.2) : NSh Γ M' n := by unfold NSh; rw [hF]; exact h
def NTr (M : rhM) (n R H h : Nat) : Prop := ∀ S X, S < 2 ^ h → X < 2 ^ H → M.1 (n + 3) (S * 64 + X) = J (tvL (ways R) (cl H S) (cl H X))
def NTs (M : rhM) (n R H h : Nat) : Prop := ∀ S, S < 2 ^ h → M.1 (n + 2) S = J (sm (ways R) (cl H S) : Nat)
def NTu (M : rhM) (n R h : Nat) : Prop := ∀ j, j < h → M.1 (n + 1) j = J (ways R j : Nat)
def NTz (M : rhM) (n : Nat) : Prop := M.1 (n + 2) 0 = J 0 ∧ ∀ X, X < 64 → M.1 (n + 3) X = J 0
/-- what the tables of Numbers say -/
def NT (M : rhM) (n R H : Nat) : Prop := M.1 n 0 = J H ∧ M.1 n 1 = J R ∧ NTu M n R H ∧ NTs M n R H H ∧ NTr M n R H H ∧ NTz M n
theorem NT.fr {M M' : rhM} {n R H : Nat} {W : List Nat} (h : NT M n R H) (hF : Fr W M M') (h0 : n ∉ W) (h1 : n + 1 ∉ W) (h2 : n + 2 ∉ W) (h3 : n + 3 ∉ W) : NT M' n R H := by
  unfold NT NTu NTs NTr NTz; rw [hF.i h0, hF.i h1, hF.i h2, hF.i h3]; exact h
section
variable {Γ : rhG} {n R H : Nat}
theorem J_or_top {p h : Nat} (hp : p = 2 ^ h) {S : Nat} (hS : S < p) : J (S : Nat) ||| J (p : Nat) = J ((p + S : Nat) : Int) := by
  rw [J_or, Nat.or_comm, hp]
  have := or_add (a := 1) (b := S) (k := h) (by omega)
  rw [Nat.one_mul] at this
  rw [this]
theorem J_1top {p h : Nat} (hp : p = 2 ^ h) (hh : h < 31) : J 1 <<< (J (h : Nat) &&& J 31) = J (p : Nat) := by
  have := J_shl 1 (k := h) (by omega)
  rw [Nat.one_mul, show (31 : Int32) = J 31 from rfl, show ((1 : Nat) : Int) = 1 from rfl] at this
  rw [this, hp]
theorem c_nb75 (k114 : rhM → Nat → Int32 → Int32 → Option rhM) {v2 : Int32} {h p u : Nat} (hp : p = 2 ^ h) (hh : h < 6) (hp2 : p ≤ 32) (k0 : Γ.2.2.1 n = 11) (k1 : Γ.2.2.1 (n + 1) = 15) (n1 : Γ.2.2.2 (n + 1) = 6) (k2 : Γ.2.2.1 (n + 2) = 15) (n2 : Γ.2.2.2 (n + 2) = 64) (Q : rhM → Prop) : ∀ (d f : Nat) (M : rhM) (S : Nat), S + d = p → d < f → M.2.2 n 2 = n + 1 → M.2.2 n 3 = n + 2 → M.1 (n + 1) h = J u →
    (∀ M', Fr [n + 2] M M' → (∀ i, M'.1 (n + 2) i = if p + S ≤ i ∧ i < p + p then M.1 (n + 2) (i - p) + J u else M.1 (n + 2) i) → wp (k114 M' n v2 (J h)) Q) → wp (f_X10_begin_75 k114 Γ f M n v2 (J h) (J S)) Q := by
  intro d
  induction d with
  | zero =>
    intro f M S hd hf r2 r3 hu hQ
    obtain ⟨f, rfl⟩ : ∃ k, f = k + 1 := ⟨f - 1, by omega⟩
    rw [f_X10_begin_75]
    simp (disch := omega) only [wp_some, wp_ck_T, wp_ck_t, wp_bind, wp_ite_t, wp_ite_f, J_lit, J_neg, J_add, J_sub, J_mul, J_lt, J_le, J_eq, J_toInt, J_clamp, J_suc, si_1, si_2, sl_1, sl_2, sl_3, Int.toNat_natCast, Int.reduceToNat, Nat.add_sub_cancel, Int.toNat_add, Int.toNat_mul, Int.toNat_sub'', true_and, and_true, and_self, if_true, if_false, not_true, not_false_eq_true, J_1top hp (show h < 31 by omega)]
    exact hQ M (Fr.refl _ _) (fun i => by rw [if_neg (by omega)])
  | succ d ih =>
    intro f M S hd hf r2 r3 hu hQ
    obtain ⟨f, rfl⟩ : ∃ k, f = k + 1 := ⟨f - 1, by omega⟩
    rw [f_X10_begin_75]
    simp (disch := omega) only [wp_some, wp_ck_T, wp_ck_t, wp_bind, wp_ite_t, wp_ite_f, J_lit, J_neg, J_add, J_sub, J_mul, J_lt, J_le, J_eq, J_toInt, J_clamp, J_suc, si_1, si_2, sl_1, sl_2, sl_3, Int.toNat_natCast, Int.reduceToNat, Nat.add_sub_cancel, Int.toNat_add, Int.toNat_mul, Int.toNat_sub'', true_and, and_true, and_self, if_true, if_false, not_true, not_false_eq_true, J_1top hp (show h < 31 by omega), J_or_top hp (show S < p by omega), k0, k1, k2, n1, n2, r2, r3, hu]
    have hF : Fr [n + 2] M (rhsi M (n + 2) (p + S) (M.1 (n + 2) S + J u)) := (Fr.refl _ _).si (by simp) _ _
    refine ih f _ (S + 1) (by omega) (by omega) r2 r3 (by rw [hF.i (by simp)]; exact hu) (fun M' h1 h2 => hQ M' (hF.trans h1) (fun i => ?_))
    have v1 : ∀ k, k ≠ p + S → (rhsi M (n + 2) (p + S) (M.1 (n + 2) S + J u)).1 (n + 2) k = M.1 (n + 2) k := fun k hk => by rw [si_1, if_neg (by omega)]
    have v2 : (rhsi M (n + 2) (p + S) (M.1 (n + 2) S + J u)).1 (n + 2) (p + S) = M.1 (n + 2) S + J u := by rw [si_1, if_pos ⟨rfl, rfl⟩]
    rw [h2]
    by_cases e : i = p + S
    · rw [if_neg (by omega), e, v2, if_pos (by omega), show p + S - p = S by omega]
    · by_cases e2 : p + (S + 1) ≤ i ∧ i < p + p
      · rw [if_pos e2, v1 (i - p) (by omega), if_pos (by omega)]
      · rw [if_neg e2, v1 i e, if_neg (by omega)]
theorem c_nb48 (k120 : rhM → Nat → Option rhM) (hH : H ≤ 6) (k0 : Γ.2.2.1 n = 11) (k1 : Γ.2.2.1 (n + 1) = 15) (n1 : Γ.2.2.2 (n + 1) = 6) (k2 : Γ.2.2.1 (n + 2) = 15) (n2 : Γ.2.2.2 (n + 2) = 64) (Q : rhM → Prop) : ∀ (d f : Nat) (M : rhM) (h : Nat), h + d = H → d < f → M.2.2 n 2 = n + 1 → M.2.2 n 3 = n + 2 → M.1 n 0 = J H → M.1 n 1 = J R → NTu M n R h → NTs M n R H h →
    (∀ M', Fr [n + 1, n + 2] M M' → NTu M' n R H → NTs M' n R H H → M'.1 (n + 2) 0 = M.1 (n + 2) 0 → wp (k120 M' n) Q) → wp (f_X10_begin_48 k120 Γ f M n (J (ways R h : Nat)) (J h)) Q := by
  intro d
  induction d with
  | zero =>
    intro f M h hd hf r2 r3 h0 h1 hu hs hQ
    obtain ⟨f, rfl⟩ : ∃ k, f = k + 1 := ⟨f - 1, by omega⟩
    rw [f_X10_begin_48]
    simp (disch := omega) only [wp_some, wp_ck_T, wp_ck_t, wp_bind, wp_ite_t, wp_ite_f, J_lit, J_neg, J_add, J_sub, J_mul, J_lt, J_le, J_eq, J_toInt, J_clamp, J_suc, si_1, si_2, sl_1, sl_2, sl_3, Int.toNat_natCast, Int.reduceToNat, Nat.add_sub_cancel, Int.toNat_add, Int.toNat_mul, Int.toNat_sub'', true_and, and_true, and_self, if_true, if_false, not_true, not_false_eq_true, k0, h0]
    have e : h = H := by omega
    subst e
    exact hQ M (Fr.refl _ _) hu hs rfl
  | succ d ih =>
    intro f M h hd hf r2 r3 h0 h1 hu hs hQ
    obtain ⟨f, rfl⟩ : ∃ k, f = k + 1 := ⟨f - 1, by omega⟩
    obtain ⟨p, hp⟩ : ∃ p, p = 2 ^ h := ⟨_, rfl⟩
    have hp2 : p ≤ 2 ^ 5 := by rw [hp]; exact pow_le (by omega)
    have hp0 : 0 < p := by rw [hp]; exact Nat.pow_pos (by decide)
    have hF : Fr [n + 1] M (rhsi M (n + 1) h (J (ways R h : Nat))) := (Fr.refl _ _).si (by simp) _ _
    have e1 : (rhsi M (n + 1) h (J (ways R h : Nat))).1 n 1 = J R := by rw [hF.i (by simp)]; exact h1
    have e2 : (ways R h : Int) * (R + h) = ((ways R (h + 1) : Nat) : Int) := by rw [ways]; simp
    have e3 : (rhsi M (n + 1) h (J (ways R h : Nat))).1 (n + 1) h = J (ways R h : Nat) := by rw [si_1, if_pos ⟨rfl, rfl⟩]
    rw [f_X10_begin_48, wp_ck_t k0, h0, wp_ite_t (by rw [J_lt (by omega) (by omega) (by omega) (by omega)]; omega), r2, wp_ck_t k1, n1, J_toInt (by omega) (by omega), wp_ck_t (by omega), J_clamp (by omega) (by omega), Int.toNat_natCast]
    dsimp only
    rw [e1, J_add, J_mul, e2, show (0 : Int32) = J ((0 : Nat) : Int) from rfl]
    have e5 : ∀ j, j ≠ h → (rhsi M (n + 1) h (J (ways R h : Nat))).1 (n + 1) j = M.1 (n + 1) j := fun j hj => by rw [si_1, if_neg (by omega)]
    generalize rhsi M (n + 1) h (J (ways R h : Nat)) = M1 at hF e1 e3 e5 ⊢
    refine c_nb75 _ hp (by omega) (by omega) k0 k1 n1 k2 n2 Q p rhFU M1 0 (by omega) (by have := FU_big; omega) (by rw [hF.1]; exact r2) (by rw [hF.1]; exact r3) e3 (fun M2 F2 g2 => ?_)
    rw [f_X10_begin_114, show (1 : Int32) = J 1 from rfl, J_add, J_suc]
    have F12 : Fr [n + 1, n + 2] M M2 := (hF.sub (by simp)).trans (F2.sub (by simp))
    refine ih f M2 (h + 1) (by omega) (by omega) (by rw [F12.1]; exact r2) (by rw [F12.1]; exact r3) (by rw [F12.i (by simp)]; exact h0) (by rw [F12.i (by simp)]; exact h1) (fun j hj => ?_) (fun S hS => ?_) (fun M' b1 b2 b3 b4 => hQ M' (F12.trans b1) b2 b3 (by rw [b4, g2, if_neg (by omega), hF.i (by simp)]))
    · rw [F2.i (by simp)]
      by_cases e : j = h
      · rw [e]; exact e3
      · rw [e5 j e]; exact hu j (by omega)
    · rw [g2, hF.i (by simp), Nat.add_zero]
      have hS : S < p + p := by rw [hp]; rw [Nat.pow_succ] at hS; omega
      by_cases c : p ≤ S
      · rw [if_pos ⟨c, hS⟩, hs (S - p) (by omega), J_add]
        have e4 : cl H S = cl H (S - p) ++ [h] := by
          have := cl_top (H := H) (h := h) (S := S - p) (by omega) (by omega)
          rw [← hp, show p + (S - p) = S by omega] at this; exact this
        rw [e4, sm_app, sm_cons, sm_nil]; rfl
      · rw [if_neg (by omega)]; exact hs S (by omega)
theorem c_nt12 (hH : H ≤ 6) {h p q S w : Nat} (hp : p = 2 ^ h) (hq : q = 2 ^ H) (hh : h < H) (hS : S < p) (hpq : p + p ≤ q) (hq2 : q ≤ 64) (hw : w = (p + S) * 64) (k0 : Γ.2.2.1 n = 11) (k1 : Γ.2.2.1 (n + 1) = 15) (n1 : Γ.2.2.2 (n + 1) = 6) (k2 : Γ.2.2.1 (n + 2) = 15) (n2 : Γ.2.2.2 (n + 2) = 64) (k3 : Γ.2.2.1 (n + 3) = 15) (n3 : Γ.2.2.2 (n + 3) = 4096) (Q : rhM → Prop) : ∀ (d f : Nat) (M : rhM) (X : Nat), X + d = q → d < f → M.2.2 n 2 = n + 1 → M.2.2 n 3 = n + 2 → M.2.2 n 4 = n + 3 → M.1 n 0 = J H → NTu M n R H → NTs M n R H H → (∀ Y, Y < q → M.1 (n + 3) (S * 64 + Y) = J (tvL (ways R) (cl H S) (cl H Y))) →
    (∀ M', Fr [n + 3] M M' → (∀ i, M'.1 (n + 3) i = if w + X ≤ i ∧ i < w + q then J (tvL (ways R) (cl H (p + S)) (cl H (i - w))) else M.1 (n + 3) i) → Q M') → wp (f_X10_addTurns_12 Γ f M n (J S) (J h) (J w) (J X)) Q := by
  intro d
  induction d with
  | zero =>
    intro f M X hd hf r2 r3 r4 h0 hu hs ht hQ
    obtain ⟨f, rfl⟩ : ∃ k, f = k + 1 := ⟨f - 1, by omega⟩
    rw [f_X10_addTurns_12]
    simp (disch := omega) only [wp_some, wp_ck_T, wp_ck_t, wp_bind, wp_ite_t, wp_ite_f, J_lit, J_neg, J_add, J_sub, J_mul, J_lt, J_le, J_eq, J_toInt, J_clamp, J_suc, si_1, si_2, sl_1, sl_2, sl_3, Int.toNat_natCast, Int.reduceToNat, Nat.add_sub_cancel, Int.toNat_add, Int.toNat_mul, Int.toNat_sub'', true_and, and_true, and_self, if_true, if_false, not_true, not_false_eq_true, k0, h0, J_1top hq (show H < 31 by omega)]
    exact hQ M (Fr.refl _ _) (fun i => by rw [if_neg (by omega)])
  | succ d ih =>
    intro f M X hd hf r2 r3 r4 h0 hu hs ht hQ
    obtain ⟨f, rfl⟩ : ∃ k, f = k + 1 := ⟨f - 1, by omega⟩
    have eA : J (X : Nat) &&& J ((p : Int) - 1) = J ((X % p : Nat) : Int) := by
      rw [show ((p : Int) - 1) = ((p - 1 : Nat) : Int) by omega, J_and, hp, Nat.and_two_pow_sub_one_eq_mod]
    have hXp : X % p ≤ X := Nat.mod_le _ _
    have eB := pc_ok' (Γ := Γ) (M := M) (S := X % p) (by omega)
    have eB2 : (cl 8 (X % p)).length = ((cl H X).filter fun x => decide (x < h)).length := by
      rw [cl_low, ← hp, cl_le (show H ≤ 8 by omega) (show X % p < 2 ^ H by omega)]
    obtain ⟨y, hy⟩ : ∃ y, y = X / 2 ^ (h + 1) * 2 ^ (h + 1) := ⟨_, rfl⟩
    have hyX : y ≤ X := by rw [hy]; exact Nat.div_mul_le_self _ _
    have eC := J_ush (k := X) (j := h + 1) (by omega) (by omega)
    have eD := J_shl (X / 2 ^ (h + 1)) (k := h + 1) (by omega)
    rw [← hy, show (31 : Int32) = J 31 from rfl] at eD
    have eE := hs y (by omega)
    have eF := hu h hh
    have eG := ht X (by omega)
    have eH : tvL (ways R) (cl H S) (cl H X) + ((ways R h : Nat) : Int) * ((cl 8 (X % p)).length : Nat) - ((sm (ways R) (cl H y) : Nat) : Int) = tvL (ways R) (cl H (p + S)) (cl H X) := by
      have e1 := cl_top (H := H) (h := h) (S := S) hh (by omega)
      rw [← hp] at e1
      rw [e1, tvL_snoc, eB2, cl_high, ← hy]
    rw [f_X10_addTurns_12]
    simp (disch := omega) only [wp_some, wp_ck_T, wp_ck_t, wp_bind, wp_ite_t, wp_ite_f, J_lit, J_neg, J_add, J_sub, J_mul, J_lt, J_le, J_eq, J_toInt, J_clamp, J_suc, si_1, si_2, sl_1, sl_2, sl_3, Int.toNat_natCast, Int.reduceToNat, Nat.add_sub_cancel, Int.toNat_add, Int.toNat_mul, Int.toNat_sub'', true_and, and_true, and_self, if_true, if_false, not_true, not_false_eq_true, k0, h0, J_1top hq (show H < 31 by omega), J_1top hp (show h < 31 by omega), eA, eB, eC, eD, r2, r3, r4, k1, k2, k3, n1, n2, n3, eE, eF, eG, eH]
    have hF : Fr [n + 3] M (rhsi M (n + 3) (w + X) (J (tvL (ways R) (cl H (p + S)) (cl H X)))) := (Fr.refl _ _).si (by simp) _ _
    refine ih f _ (X + 1) (by omega) (by omega) r2 r3 r4 (by rw [hF.i (by simp)]; exact h0) (fun j hj => by rw [hF.i (by simp)]; exact hu j hj) (fun j hj => by rw [hF.i (by simp)]; exact hs j hj) (fun Y hY => by rw [si_1, if_neg (by omega)]; exact ht Y hY) (fun M' h1 h2 => hQ M' (hF.trans h1) (fun i => ?_))
    rw [h2, si_1]
    by_cases e : i = w + X
    · rw [if_neg (by omega), if_pos ⟨rfl, e⟩, if_pos (by omega), show i - w = X by omega]
    · by_cases e2 : w + (X + 1) ≤ i ∧ i < w + q
      · rw [if_pos e2, if_pos (by omega)]
      · rw [if_neg e2, if_neg (by omega), if_neg (by omega)]
theorem c_nt133 (k154 : rhM → Nat → Int32 → Option rhM) (hH : H ≤ 6) {h p q : Nat} (hp : p = 2 ^ h) (hq : q = 2 ^ H) (hh : h < H) (hpq : p + p ≤ q) (hq2 : q ≤ 64) (k0 : Γ.2.2.1 n = 11) (k1 : Γ.2.2.1 (n + 1) = 15) (n1 : Γ.2.2.2 (n + 1) = 6) (k2 : Γ.2.2.1 (n + 2) = 15) (n2 : Γ.2.2.2 (n + 2) = 64) (k3 : Γ.2.2.1 (n + 3) = 15) (n3 : Γ.2.2.2 (n + 3) = 4096) (Q : rhM → Prop) : ∀ (d f : Nat) (M : rhM) (S : Nat), S + d = p → d < f → M.2.2 n 2 = n + 1 → M.2.2 n 3 = n + 2 → M.2.2 n 4 = n + 3 → M.1 n 0 = J H → NTu M n R H → NTs M n R H H → (∀ S' Y, S' < p + S → Y < q → M.1 (n + 3) (S' * 64 + Y) = J (tvL (ways R) (cl H S') (cl H Y))) →
    (∀ M', Fr [n + 3] M M' → (∀ S' Y, S' < p + p → Y < q → M'.1 (n + 3) (S' * 64 + Y) = J (tvL (ways R) (cl H S') (cl H Y))) → (∀ i, i < 64 → M'.1 (n + 3) i = M.1 (n + 3) i) → wp (k154 M' n (J h)) Q) → wp (f_X10_begin_133 k154 Γ f M n (J h) (J S)) Q := by
  have hp0 : 0 < p := by rw [hp]; exact Nat.pow_pos (by decide)
  intro d
  induction d with
  | zero =>
    intro f M S hd hf r2 r3 r4 h0 hu hs ht hQ
    obtain ⟨f, rfl⟩ : ∃ k, f = k + 1 := ⟨f - 1, by omega⟩
    rw [f_X10_begin_133]
    simp (disch := omega) only [wp_some, wp_ck_T, wp_ck_t, wp_bind, wp_ite_t, wp_ite_f, J_lit, J_neg, J_add, J_sub, J_mul, J_lt, J_le, J_eq, J_toInt, J_clamp, J_suc, si_1, si_2, sl_1, sl_2, sl_3, Int.toNat_natCast, Int.reduceToNat, Nat.add_sub_cancel, Int.toNat_add, Int.toNat_mul, Int.toNat_sub'', true_and, and_true, and_self, if_true, if_false, not_true, not_false_eq_true, J_1top hp (show h < 31 by omega)]
    exact hQ M (Fr.refl _ _) (fun S' Y a b => ht S' Y (by omega) b) (fun _ _ => rfl)
  | succ d ih =>
    intro f M S hd hf r2 r3 r4 h0 hu hs ht hQ
    obtain ⟨f, rfl⟩ : ∃ k, f = k + 1 := ⟨f - 1, by omega⟩
    have hw : ((p + S : Nat) : Int) * 64 = (((p + S) * 64 : Nat) : Int) := by omega
    rw [f_X10_begin_133]
    simp (disch := omega) only [wp_some, wp_ck_T, wp_ck_t, wp_bind, wp_ite_t, wp_ite_f, J_lit, J_neg, J_add, J_sub, J_mul, J_lt, J_le, J_eq, J_toInt, J_clamp, J_suc, si_1, si_2, sl_1, sl_2, sl_3, Int.toNat_natCast, Int.reduceToNat, Nat.add_sub_cancel, Int.toNat_add, Int.toNat_mul, Int.toNat_sub'', true_and, and_true, and_self, if_true, if_false, not_true, not_false_eq_true, J_1top hp (show h < 31 by omega), k0]
    rw [f_X10_addTurns]
    simp (disch := omega) only [wp_some, wp_ck_T, wp_ck_t, wp_bind, wp_ite_t, wp_ite_f, J_lit, J_neg, J_add, J_sub, J_mul, J_lt, J_le, J_eq, J_toInt, J_clamp, J_suc, si_1, si_2, sl_1, sl_2, sl_3, Int.toNat_natCast, Int.reduceToNat, Nat.add_sub_cancel, Int.toNat_add, Int.toNat_mul, Int.toNat_sub'', true_and, and_true, and_self, if_true, if_false, not_true, not_false_eq_true, J_1top hp (show h < 31 by omega), J_or_top hp (show S < p by omega), hw]
    refine c_nt12 hH hp hq hh (by omega) hpq hq2 rfl k0 k1 n1 k2 n2 k3 n3 _ q rhFU M 0 (by omega) (by have := FU_big; omega) r2 r3 r4 h0 hu hs (fun Y hY => ht S Y (by omega) hY) (fun M1 F1 g1 => ?_)
    refine ih f M1 (S + 1) (by omega) (by omega) (by rw [F1.1]; exact r2) (by rw [F1.1]; exact r3) (by rw [F1.1]; exact r4) (by rw [F1.i (by simp)]; exact h0) (fun j hj => by rw [F1.i (by simp)]; exact hu j hj) (fun j hj => by rw [F1.i (by simp)]; exact hs j hj) (fun S' Y a b => ?_) (fun M' b1 b2 b3 => hQ M' (F1.trans b1) b2 (fun i hi => by rw [b3 i hi, g1, if_neg (by omega)]))
    rw [g1]
    by_cases e : S' = p + S
    · rw [e, if_pos (by omega), show (p + S) * 64 + Y - (p + S) * 64 = Y by omega]
    · rw [if_neg (by omega)]; exact ht S' Y (by omega) b
theorem c_nt122 (hH : H ≤ 6) {q : Nat} (hq : q = 2 ^ H) (hq2 : q ≤ 64) (k0 : Γ.2.2.1 n = 11) (k1 : Γ.2.2.1 (n + 1) = 15) (n1 : Γ.2.2.2 (n + 1) = 6) (k2 : Γ.2.2.1 (n + 2) = 15) (n2 : Γ.2.2.2 (n + 2) = 64) (k3 : Γ.2.2.1 (n + 3) = 15) (n3 : Γ.2.2.2 (n + 3) = 4096) (Q : rhM → Prop) : ∀ (d f : Nat) (M : rhM) (h : Nat), h + d = H → d < f → M.2.2 n 2 = n + 1 → M.2.2 n 3 = n + 2 → M.2.2 n 4 = n + 3 → M.1 n 0 = J H → NTu M n R H → NTs M n R H H → NTr M n R H h →
    (∀ M', Fr [n + 3] M M' → NTr M' n R H H → (∀ i, i < 64 → M'.1 (n + 3) i = M.1 (n + 3) i) → Q M') → wp (f_X10_begin_122 Γ f M n (J h)) Q := by
  intro d
  induction d with
  | zero =>
    intro f M h hd hf r2 r3 r4 h0 hu hs ht hQ
    obtain ⟨f, rfl⟩ : ∃ k, f = k + 1 := ⟨f - 1, by omega⟩
    rw [f_X10_begin_122]
    simp (disch := omega) only [wp_some, wp_ck_T, wp_ck_t, wp_bind, wp_ite_t, wp_ite_f, J_lit, J_neg, J_add, J_sub, J_mul, J_lt, J_le, J_eq, J_toInt, J_clamp, J_suc, si_1, si_2, sl_1, sl_2, sl_3, Int.toNat_natCast, Int.reduceToNat, Nat.add_sub_cancel, Int.toNat_add, Int.toNat_mul, Int.toNat_sub'', true_and, and_true, and_self, if_true, if_false, not_true, not_false_eq_true, k0, h0]
    have e : h = H := by omega
    subst e
    exact hQ M (Fr.refl _ _) ht (fun _ _ => rfl)
  | succ d ih =>
    intro f M h hd hf r2 r3 r4 h0 hu hs ht hQ
    obtain ⟨f, rfl⟩ : ∃ k, f = k + 1 := ⟨f - 1, by omega⟩
    obtain ⟨p, hp⟩ : ∃ p, p = 2 ^ h := ⟨_, rfl⟩
    have hpq : p + p ≤ q := by
      have : 2 ^ (h + 1) ≤ 2 ^ H := pow_le (by omega)
      rw [Nat.pow_succ] at this; omega
    rw [f_X10_begin_122, wp_ck_t k0, h0, wp_ite_t (by rw [J_lt (by omega) (by omega) (by omega) (by omega)]; omega), show (0 : Int32) = J ((0 : Nat) : Int) from rfl]
    refine c_nt133 _ hH hp hq (by omega) hpq hq2 k0 k1 n1 k2 n2 k3 n3 Q p rhFU M 0 (by omega) (by have := FU_big; omega) r2 r3 r4 h0 hu hs (fun S' Y a b => ht S' Y (by omega) (by omega)) (fun M1 F1 g1 g2 => ?_)
    rw [f_X10_begin_154, show (1 : Int32) = J 1 from rfl, J_add, J_suc]
    refine ih f M1 (h + 1) (by omega) (by omega) (by rw [F1.1]; exact r2) (by rw [F1.1]; exact r3) (by rw [F1.1]; exact r4) (by rw [F1.i (by simp)]; exact h0) (fun j hj => by rw [F1.i (by simp)]; exact hu j hj) (fun j hj => by rw [F1.i (by simp)]; exact hs j hj) (fun S' Y a b => g1 S' Y (by rw [Nat.pow_succ] at a; omega) (by omega)) (fun M' b1 b2 b3 => hQ M' (F1.trans b1) b2 (fun i hi => by rw [b3 i hi, g2 i hi]))
theorem c_nbegin {M : rhM} {t R0 H0 : Nat} (hs : NSh Γ M n) (hN : NT M n R0 H0) (hR0 : R0 ≤ 5) (hH0 : H0 ≤ 6) (hR : R ≤ 5) (hH : H ≤ 6) (kt : Γ.2.2.1 t = 10) (htn : t ∉ [n, n + 1, n + 2, n + 3]) (t0 : M.1 t 0 = J R) (t1 : M.1 t 1 = J H) :
    wp (f_X10_begin Γ M n t) (fun M' => Fr [n, n + 1, n + 2, n + 3] M M' ∧ NT M' n R H) := by
  obtain ⟨k0, ⟨k1, n1⟩, ⟨k2, n2⟩, ⟨k3, n3⟩, r2, r3, r4⟩ := hs
  have hN0 := hN
  obtain ⟨m0, m1, -, -, -, z1, z2⟩ := hN
  simp only [List.mem_cons, List.not_mem_nil, or_false, not_or] at htn
  obtain ⟨q, hq⟩ : ∃ q, q = 2 ^ H := ⟨_, rfl⟩
  have hq2 : q ≤ 2 ^ 6 := by rw [hq]; exact pow_le hH
  have hq2 : q ≤ 64 := hq2
  have e23 : wp (f_X10_begin_23 Γ M n t) (fun M' => Fr [n, n + 1, n + 2, n + 3] M M' ∧ NT M' n R H) := by
    have e6 : (if (6 : Int32) < J H then (6 : Int32) else J H) = J H := by
      rw [if_neg (by rw [show (6 : Int32) = J 6 from rfl, J_lt (by omega) (by omega) (by omega) (by omega)]; omega)]
    have e7 : (rhsi M n 0 (J H)).1 t 0 = J R := by rw [si_1, if_neg (by omega)]; exact t0
    have hF : Fr [n] M (rhsi (rhsi M n 0 (J H)) n 1 (J R)) := ((Fr.refl _ _).si (by simp) _ _).si (by simp) _ _
    have g0 : (rhsi (rhsi M n 0 (J H)) n 1 (J R)).1 n 0 = J H := by rw [si_1, if_neg (by omega), si_1, if_pos ⟨rfl, rfl⟩]
    have g1 : (rhsi (rhsi M n 0 (J H)) n 1 (J R)).1 n 1 = J R := by rw [si_1, if_pos ⟨rfl, rfl⟩]
    rw [f_X10_begin_23, wp_ck_t kt, t1]
    dsimp only
    rw [e6, wp_ck_t k0, e7, show (0 : Int32) = J ((0 : Nat) : Int) from rfl, show (1 : Int32) = J (ways R 0 : Nat) from rfl]
    generalize rhsi (rhsi M n 0 (J H)) n 1 (J R) = M1 at hF g0 g1 ⊢
    refine c_nb48 _ hH k0 k1 n1 k2 n2 _ H rhFU M1 0 (by omega) (by have := FU_big; omega) (by rw [hF.1]; exact r2) (by rw [hF.1]; exact r3) g0 g1 (fun j hj => by omega) (fun S hS => ?_) (fun M2 F2 u2 s2 y2 => ?_)
    · have : S = 0 := by simpa using hS
      subst this
      rw [hF.i (by simp), z1, cl_0, sm_nil]; rfl
    · rw [f_X10_begin_120, show (0 : Int32) = J ((0 : Nat) : Int) from rfl]
      have F12 : Fr [n, n + 1, n + 2] M M2 := (hF.sub (by simp)).trans (F2.sub (by simp))
      refine c_nt122 hH hq hq2 k0 k1 n1 k2 n2 k3 n3 _ H rhFU M2 0 (by omega) (by have := FU_big; omega) (by rw [F12.1]; exact r2) (by rw [F12.1]; exact r3) (by rw [F12.1]; exact r4) (by rw [F2.i (by simp)]; exact g0) u2 s2 (fun S X a b => ?_) (fun M3 F3 t3 y3 => ?_)
      · have : S = 0 := by simpa using a
        subst this
        rw [Nat.zero_mul, Nat.zero_add, F12.i (by simp), z2 X (by omega), cl_0, tvL_nil]
      · refine ⟨(F12.sub (by simp)).trans (F3.sub (by simp)), by rw [F3.i (by simp), F2.i (by simp)]; exact g0, by rw [F3.i (by simp), F2.i (by simp)]; exact g1, fun j hj => by rw [F3.i (by simp)]; exact u2 j hj, fun j hj => by rw [F3.i (by simp)]; exact s2 j hj, t3, ?_, fun X hX => ?_⟩
        · rw [F3.i (by simp), y2, hF.i (by simp)]; exact z1
        · rw [y3 X hX, F12.i (by simp)]; exact z2 X hX
  rw [f_X10_begin, wp_ck_t k0, wp_ck_t kt, m0, m1, t0, t1]
  by_cases c1 : H0 = H
  · by_cases c2 : R0 = R
    · rw [wp_ite_t (by rw [c1]), wp_ite_t (by rw [c2]), wp_some]
      subst c1 c2
      exact ⟨Fr.refl _ _, hN0⟩
    · rw [wp_ite_t (by rw [c1]), wp_ite_f (by rw [J_eq (by omega) (by omega) (by omega) (by omega)]; omega)]; exact e23
  · rw [wp_ite_f (by rw [J_eq (by omega) (by omega) (by omega) (by omega)]; omega)]; exact e23
end
