/-! THE CLASS'S STANDS -/
def dgs (L : Ar) : List Nat := (fl [8] L).drop 1
def wn (L : Ar) : Nat := dg (dgs L)
def ss (l : List Nat) : Nat := l.foldl (fun a h => a ||| 2 ^ h) 0
theorem ss_snoc (l : List Nat) (x : Nat) : ss (l ++ [x]) = ss l ||| 2 ^ x := by simp [ss]
theorem ss_bit' (i : Nat) : ∀ (l : List Nat) (a : Nat), (l.foldl (fun a h => a ||| 2 ^ h) a).testBit i = (a.testBit i || decide (i ∈ l))
  | [], a => by simp
  | x :: l, a => by
    rw [List.foldl_cons, ss_bit' i l, Nat.testBit_or, Nat.testBit_two_pow]
    by_cases h : x = i
    · subst h; simp
    · have h2 : ¬ i = x := fun e => h e.symm
      simp [h, h2]
theorem ss_bit (l : List Nat) (i : Nat) : (ss l).testBit i = decide (i ∈ l) := by rw [ss, ss_bit']; simp
theorem ss_lt {l : List Nat} {H : Nat} (h : ∀ x, x ∈ l → x < H) : ss l < 2 ^ H := by
  apply Nat.lt_pow_two_of_testBit
  intro i hi
  rw [ss_bit, decide_eq_false]
  intro h2; have := h i h2; omega
theorem ss_eq {a b : List Nat} (h : ∀ x, x ∈ a ↔ x ∈ b) : ss a = ss b := by
  apply Nat.eq_of_testBit_eq
  intro i; rw [ss_bit, ss_bit, decide_eq_decide]; exact h i
theorem fl8_16 {R H : Nat} {L : Ar} (wL : WA R H L) (hH : H ≤ 8) : ∀ x, x ∈ fl [8] L → x < 16 := by
  intro x hx
  rw [fl, List.mem_flatMap] at hx
  obtain ⟨l, hl, hx⟩ := hx
  simp only [List.mem_append, List.mem_singleton] at hx
  rcases hx with e | e
  · omega
  · have : x ∈ fl [] L := by rw [fl, List.mem_flatMap]; exact ⟨l, hl, by simpa using e⟩
    have := wL.lt.mp this; omega
theorem dgs_16 {R H : Nat} {L : Ar} (wL : WA R H L) (hH : H ≤ 8) : ∀ x, x ∈ dgs L → x < 16 := fun x hx => fl8_16 wL hH x (List.mem_of_mem_drop hx)
theorem dgs_len {R H : Nat} {L : Ar} (wL : WA R H L) : (dgs L).length = H + R - 1 := by
  rw [dgs, List.length_drop, fl_len, wL.1, wL.cumR]; simp
theorem wn_lt {R H : Nat} {L : Ar} (wL : WA R H L) (hR : R ≤ 5) (hH : H ≤ 8) : wn L < 2 ^ 48 := by
  have h1 := dg_lt (dgs_16 wL hH)
  rw [dgs_len wL] at h1
  refine Nat.lt_of_lt_of_le h1 (Nat.pow_le_pow_right (by decide) (by omega))
theorem dgs_get {L : Ar} {r i : Nat} (h : i < (rl L r).length) : (dgs L).getD (cum L r + r + i) 0 = (rl L r).getD i 0 := by
  rw [dgs, gd_drop, ← fl_get [8] i L r h]
  congr 1; simp; omega
/-- where the last three rows of a stand lie -/
def xb (s : Nat) : Nat := if s = 33 then 165 else if s = 40 then 168 else if s = 68 then 171 else if s = 75 then 174 else if s = 82 then 177 else if s = 89 then 180 else s + 7
theorem xb_big {s : Nat} (h : 90 ≤ s) : xb s = s + 7 := by unfold xb; rw [if_neg (by omega), if_neg (by omega), if_neg (by omega), if_neg (by omega), if_neg (by omega), if_neg (by omega)]
def SX (Γ : rhG) (M : rhM) (s : Nat) : Prop := (Γ.2.2.1 (xb s) = 15 ∧ Γ.2.2.2 (xb s) = 32) ∧ (Γ.2.2.1 (xb s + 1) = 15 ∧ Γ.2.2.2 (xb s + 1) = 32) ∧ (Γ.2.2.1 (xb s + 2) = 15 ∧ Γ.2.2.2 (xb s + 2) = 32) ∧ M.2.2 s 9 = xb s ∧ M.2.2 s 10 = xb s + 1 ∧ M.2.2 s 11 = xb s + 2
def SS (Γ : rhG) (M : rhM) (s : Nat) : Prop := Γ.2.2.1 s = 8 ∧ (Γ.2.2.1 (s + 1) = 15 ∧ Γ.2.2.2 (s + 1) = 5) ∧ (Γ.2.2.1 (s + 2) = 15 ∧ Γ.2.2.2 (s + 2) = 5) ∧ (Γ.2.2.1 (s + 3) = 15 ∧ Γ.2.2.2 (s + 3) = 5) ∧ (Γ.2.2.1 (s + 4) = 15 ∧ Γ.2.2.2 (s + 4) = 5) ∧ (Γ.2.2.1 (s + 5) = 15 ∧ Γ.2.2.2 (s + 5) = 32) ∧ (Γ.2.2.1 (s + 6) = 15 ∧ Γ.2.2.2 (s + 6) = 32) ∧
  M.2.2 s 2 = s + 1 ∧ M.2.2 s 3 = s + 2 ∧ M.2.2 s 4 = s + 3 ∧ M.2.2 s 5 = s + 4 ∧ M.2.2 s 7 = s + 5 ∧ M.2.2 s 8 = s + 6 ∧ SX Γ M s
def SA (M : rhM) (s R : Nat) (L : Ar) : Prop := M.2.1 s 0 = jl (wn L) ∧ M.1 s 1 = J R ∧ ∀ r, r < R → M.1 (s + 1) r = J ((cum L r + r : Nat) : Int) ∧ M.1 (s + 2) r = J ((cum L (r + 1) + r : Nat) : Int) ∧ M.1 (s + 3) r = J (ss (rl L r))
theorem SS.fr {Γ : rhG} {M M' : rhM} {s : Nat} (h : SS Γ M s) (hF : M'.2.2 = M.2.2) : SS Γ M' s := by unfold SS SX; rw [hF]; exact h
theorem J_1sh : ∀ d, d < 31 → (1 : Int32) <<< (J (d : Nat) &&& 31) = J ((2 ^ d : Nat) : Int) := by decide +kernel
section
variable {Γ : rhG} {M : rhM} {L : Ar} {s : Nat}
theorem c_digit {l : List Nat} (h : ∀ x, x ∈ l → x < 16) (hl : l.length ≤ 15) {i : Nat} (hi : i < 16) : f_X7_digitOf Γ M (jl (dg l)) (J i) = some (J (l.getD i 0)) := by
  have h1 := dg_lt h
  have h2 : dg l < 2 ^ 64 := Nat.lt_of_lt_of_le h1 (Nat.pow_le_pow_right (by decide) (by omega))
  rw [f_X7_digitOf, J_lit, J_mul, show ((4 : Int) * i) = ((4 * i : Nat) : Int) by omega, jl_shr h2 (by omega), jl_to32, show (15 : Int32) = J ((15 : Nat) : Int) from rfl, J_and, ← dg_div i h, show (15 : Nat) = 2 ^ 4 - 1 by decide, Nat.and_two_pow_sub_one_eq_mod, Nat.shiftRight_eq_div_pow]
  congr 3; omega
theorem c_look50 {M0 : rhM} (hs : SS Γ M0 s) {l : List Nat} (h16 : ∀ x, x ∈ l → x < 16) (hl : l.length ≤ 15) : ∀ (n : Nat) (M : rhM) (i r : Nat) (c x : List Nat) (B : Ar), M.2.2 = M0.2.2 → (∀ h, h ∈ x → h < 8) → (∀ h, h ∈ fl [] B → h < 8) → l.drop i = x ++ fl [8] B → i ≤ l.length → r + B.length < 5 → M.1 (s + 3) r = J (ss c) → x.length + (fl [8] B).length < n →
    wp (f_X7_look_50 (f_X7_look_134 Γ) Γ n M s (jl (dg l)) (J l.length) (J r) (J i)) (fun M' => Fr [s + 1, s + 2, s + 3] M M' ∧ M'.1 (s + 2) r = J ((i + x.length : Nat) : Int) ∧ M'.1 (s + 3) r = J (ss (c ++ x)) ∧
      (∀ q, q < B.length → M'.1 (s + 1) (r + 1 + q) = J ((i + x.length + 1 + cum B q + q : Nat) : Int) ∧ M'.1 (s + 2) (r + 1 + q) = J ((i + x.length + 1 + cum B (q + 1) + q : Nat) : Int) ∧ M'.1 (s + 3) (r + 1 + q) = J (ss (rl B q))) ∧
      (∀ q, q ≤ r → M'.1 (s + 1) q = M.1 (s + 1) q) ∧ ∀ q, q < r → M'.1 (s + 2) q = M.1 (s + 2) q ∧ M'.1 (s + 3) q = M.1 (s + 3) q) := by
  obtain ⟨k0, ⟨k1, n1⟩, ⟨k2, n2⟩, ⟨k3, n3⟩, -, -, -, f2, f3, f4, -, -, -⟩ := hs
  intro n
  induction n with
  | zero => intro M i r c x B _ _ _ _ _ _ _ h; omega
  | succ n ih =>
    intro M i r c x B hM hx8 hB8 hd hi hr hc hn
    have hlen := congrArg List.length hd
    rw [List.length_drop, List.length_append] at hlen
    have hget : ∀ k, l.getD (i + k) 0 = (x ++ fl [8] B).getD k 0 := fun k => by rw [← hd, gd_drop]
    have hD := c_digit (Γ := Γ) (M := M) h16 hl (i := i) (by omega)
    have hg := hget 0
    rw [Nat.add_zero] at hg
    rw [f_X7_look_50]
    match x, B, hx8, hB8, hd, hr, hn, hlen, hg with
    | y :: x, B, hx8, hB8, hd, hr, hn, hlen, hg =>
      have hy := hx8 y List.mem_cons_self
      rw [List.length_cons] at hn hlen
      rw [List.cons_append, List.getD_cons_zero] at hg
      rw [hg] at hD
      simp (disch := omega) only [wp_some, wp_ck_T, wp_ck_t, wp_bind, wp_ite_t, wp_ite_f, J_lit, J_neg, J_add, J_sub, J_mul, J_lt, J_le, J_eq, J_toInt, J_clamp, J_suc, si_1, si_2, sl_1, sl_2, sl_3, Int.toNat_natCast, Int.reduceToNat, Nat.add_sub_cancel, Int.toNat_add, Int.toNat_mul, Int.toNat_sub'', true_and, and_true, and_self, if_true, if_false, not_true, not_false_eq_true, f_X7_look_128, hD, k0, k1, k2, k3, n1, n2, n3, hM, f2, f3, f4, hc]
      rw [show J 1 = (1 : Int32) from rfl, show J 31 = (31 : Int32) from rfl, J_1sh y (by omega), J_or]
      have hF : Fr [s + 1, s + 2, s + 3] M (rhsi M (s + 3) r (J ((ss c ||| 2 ^ y : Nat) : Int))) := (Fr.refl _ _).si (by simp) _ _
      refine (ih (rhsi M (s + 3) r (J ((ss c ||| 2 ^ y : Nat) : Int))) (i + 1) r (c ++ [y]) x B hM (fun h hh => hx8 h (List.mem_cons_of_mem _ hh)) hB8 ?_ (by omega) hr ?_ (by omega)).mono (fun M' h => ⟨hF.trans h.1, ?_, ?_, ?_, ?_, ?_⟩)
      · have := congrArg (List.drop 1) hd
        rw [List.drop_drop] at this; simpa using this
      · rw [si_1, if_pos ⟨rfl, rfl⟩, ss_snoc]
      · rw [h.2.1, List.length_cons]; congr 2; omega
      · rw [h.2.2.1]; simp
      · intro q hq
        have := h.2.2.2.1 q hq
        rw [this.1, this.2.1, this.2.2, List.length_cons]
        refine ⟨?_, ?_, rfl⟩ <;> congr 2 <;> omega
      · intro q hq
        rw [h.2.2.2.2.1 q hq, si_1, if_neg (by omega)]
      · intro q hq
        rw [(h.2.2.2.2.2 q hq).1, (h.2.2.2.2.2 q hq).2, si_1, si_1, if_neg (by omega), if_neg (by omega)]
        exact ⟨rfl, rfl⟩
    | [], y :: B, hx8, hB8, hd, hr, hn, hlen, hg =>
      rw [List.length_cons] at hr
      have hfl : (fl [8] (y :: B)).length = 1 + y.length + (fl [8] B).length := by rw [fl_cons]; simp; omega
      have hcc : ∀ q, cum (y :: B) (q + 1) = y.length + cum B q := cum_cons y B
      simp only [List.length_nil] at hn hlen
      rw [fl_cons] at hg
      rw [hfl] at hn hlen
      have hg2 : l.getD i 0 = 8 := by rw [hg]; rfl
      rw [hg2] at hD
      simp (disch := omega) only [wp_some, wp_ck_T, wp_ck_t, wp_bind, wp_ite_t, wp_ite_f, J_lit, J_neg, J_add, J_sub, J_mul, J_lt, J_le, J_eq, J_toInt, J_clamp, J_suc, si_1, si_2, sl_1, sl_2, sl_3, Int.toNat_natCast, Int.reduceToNat, Nat.add_sub_cancel, Int.toNat_add, Int.toNat_mul, Int.toNat_sub'', true_and, and_true, and_self, if_true, if_false, not_true, not_false_eq_true, f_X7_look_128, hD, k0, k1, k2, k3, n1, n2, n3, hM, f2, f3, f4, hc, show ((8 : Nat) : Int) = 8 from rfl]
      have hF : Fr [s + 1, s + 2, s + 3] M (rhsi (rhsi (rhsi M (s + 2) r (J i)) (s + 1) (r + 1) (J ((i + 1 : Nat) : Int))) (s + 3) (r + 1) (J 0)) := (((Fr.refl _ _).si (by simp) _ _).si (by simp) _ _).si (by simp) _ _
      refine (ih (rhsi (rhsi (rhsi M (s + 2) r (J i)) (s + 1) (r + 1) (J ((i + 1 : Nat) : Int))) (s + 3) (r + 1) (J 0)) (i + 1) (r + 1) [] y B hM (fun h hh => hB8 h (by rw [fl_cons]; simp [hh])) (fun h hh => hB8 h (by rw [fl_cons]; simp [hh])) ?_ (by omega) (by omega) ?_ (by omega)).mono (fun M' h => ⟨hF.trans h.1, ?_, ?_, ?_, ?_, ?_⟩)
      · have := congrArg (List.drop 1) hd
        rw [List.drop_drop, fl_cons] at this; simpa using this
      · rw [si_1, if_pos ⟨rfl, rfl⟩]; rfl
      · rw [(h.2.2.2.2.2 r (by omega)).1, si_1, si_1, si_1, if_neg (by omega), if_neg (by omega), if_pos ⟨rfl, rfl⟩]; simp
      · rw [(h.2.2.2.2.2 r (by omega)).2, si_1, si_1, si_1, if_neg (by omega), if_neg (by omega), if_neg (by omega), hc]; simp
      · intro q hq
        rw [List.length_cons] at hq
        cases q with
        | zero =>
          rw [Nat.add_zero, h.2.2.2.2.1 (r + 1) (by omega), h.2.1, h.2.2.1, si_1, si_1, if_neg (by omega), if_pos ⟨rfl, rfl⟩, hcc, rl_zero]
          simp [cum]
        | succ q =>
          have := h.2.2.2.1 q (by omega)
          rw [show r + 1 + (q + 1) = r + 1 + 1 + q by omega, this.1, this.2.1, this.2.2, hcc, hcc, rl_succ]
          simp only [List.length_nil]
          refine ⟨?_, ?_, trivial⟩ <;> congr 2 <;> omega
      · intro q hq
        rw [h.2.2.2.2.1 q (by omega), si_1, si_1, si_1, if_neg (by omega), if_neg (by omega), if_neg (by omega)]
      · intro q hq
        rw [(h.2.2.2.2.2 q (by omega)).1, (h.2.2.2.2.2 q (by omega)).2]
        simp only [si_1]
        rw [if_neg (by omega), if_neg (by omega), if_neg (by omega), if_neg (by omega), if_neg (by omega), if_neg (by omega)]
        exact ⟨rfl, rfl⟩
    | [], [], hx8, hB8, hd, hr, hn, hlen, hg =>
      simp only [List.length_nil, fl_nil] at hlen hr
      have hil : i = l.length := by omega
      simp (disch := omega) only [wp_some, wp_ck_T, wp_ck_t, wp_bind, wp_ite_t, wp_ite_f, J_lit, J_neg, J_add, J_sub, J_mul, J_lt, J_le, J_eq, J_toInt, J_clamp, J_suc, si_1, si_2, sl_1, sl_2, sl_3, Int.toNat_natCast, Int.reduceToNat, Nat.add_sub_cancel, Int.toNat_add, Int.toNat_mul, Int.toNat_sub'', true_and, and_true, and_self, if_true, if_false, not_true, not_false_eq_true, f_X7_look_134, k0, k1, k2, k3, n1, n2, n3, hM, f2, f3, f4, hc]
      refine ⟨(Fr.refl _ _).si (by simp) _ _, ?_, ?_, fun q hq => by simp at hq, fun q hq => ?_, fun q hq => ?_⟩
      · simp [hil]
      · simp [hc]
      · rw [if_neg (by omega)]
      · constructor
        · rw [if_neg (by omega)]
        · rw [if_neg (by omega)]
theorem fl8_eq (L : Ar) : (L = [] ∧ dgs L = []) ∨ ∃ x B, L = x :: B ∧ dgs L = x ++ fl [8] B := by
  cases L with
  | nil => exact Or.inl ⟨rfl, rfl⟩
  | cons x B => exact Or.inr ⟨x, B, rfl, by rw [dgs, fl_cons]; rfl⟩
theorem c_look (hs : SS Γ M s) {t R H : Nat} (hR : R ≤ 5) (hH : H ≤ 8) (wL : WA R H L) (hRH : 0 < H → 0 < R) (hk : Γ.2.2.1 t = 10) (ht : t ∉ [s, s + 1, s + 2, s + 3]) (h0 : M.1 t 0 = J R) (h1 : M.1 t 1 = J H) :
    wp (f_X7_look Γ M s t (jl (wn L))) (fun M' => Fr [s, s + 1, s + 2, s + 3] M M' ∧ SA M' s R L ∧ ∀ k, k ≠ 1 → M'.1 s k = M.1 s k) := by
  have hs0 := hs
  obtain ⟨k0, ⟨k1, n1⟩, ⟨k2, n2⟩, ⟨k3, n3⟩, -, -, -, f2, f3, f4, -, -, -⟩ := hs
  simp only [List.mem_cons, List.not_mem_nil, or_false, not_or] at ht
  rw [f_X7_look]
  have h64 : ∀ M1 : rhM, M1 = rhsi (rhsi (rhsi (rhsl M s 0 (jl (wn L))) s 1 (J R)) (s + 1) 0 (J 0)) (s + 3) 0 (J 0) → wp (f_X7_look_50 (f_X7_look_134 Γ) Γ rhFU M1 s (jl (wn L)) (J (dgs L).length) (J ((0 : Nat) : Int)) (J ((0 : Nat) : Int))) (fun M' => Fr [s, s + 1, s + 2, s + 3] M M' ∧ SA M' s R L ∧ ∀ k, k ≠ 1 → M'.1 s k = M.1 s k) := by
    intro M1 hM1
    have hF : Fr [s, s + 1, s + 2, s + 3] M M1 := by
      rw [hM1]; exact ((((Fr.refl _ _).sl (by simp) _ _).si (by simp) _ _).si (by simp) _ _).si (by simp) _ _
    have h16 := dgs_16 wL hH
    have hl := dgs_len wL
    have z3 : M1.1 (s + 3) 0 = J (ss []) := by rw [hM1, si_1, if_pos ⟨rfl, rfl⟩]; rfl
    have z1 : M1.1 (s + 1) 0 = J 0 := by rw [hM1, si_1, si_1, if_neg (by omega), if_pos ⟨rfl, rfl⟩]
    have y0 : M1.2.1 s 0 = jl (wn L) := by rw [hM1, si_2, si_2, si_2, sl_2, if_pos ⟨rfl, rfl⟩]
    have y1 : M1.1 s 1 = J R := by rw [hM1, si_1, si_1, si_1, if_neg (by omega), if_neg (by omega), if_pos ⟨rfl, rfl⟩]
    have yk : ∀ k, k ≠ 1 → M1.1 s k = M.1 s k := fun k hk => by
      rw [hM1, si_1, si_1, si_1, sl_1, if_neg (by omega), if_neg (by omega), if_neg (by omega)]
    have x8 : ∀ r, ∀ h, h ∈ rl L r → h < 8 := fun r h hh => by have := wL.lt.mp (rl_sub hh); omega
    rcases fl8_eq L with ⟨e1, e2⟩ | ⟨x, B, e1, e2⟩
    · subst e1
      have hR0 : R = 0 := by have := wL.1; simpa using this.symm
      refine (c_look50 hs0 (l := dgs []) h16 (by omega) rhFU M1 0 0 [] [] [] hF.1 (by simp) (by simp [fl]) (by rw [e2]; rfl) (by omega) (by simp) z3 (by have := FU_big; simp [fl]; omega)).mono (fun M' h => ⟨hF.trans (h.1.sub (by simp)), ⟨?_, ?_, fun r hr => by omega⟩, fun k hk => ?_⟩)
      · rw [h.1.l (by simp)]; exact y0
      · rw [h.1.i (by simp)]; exact y1
      · rw [h.1.i (by simp)]; exact yk k hk
    · have hlen := wL.1
      rw [e1, List.length_cons] at hlen
      have hx : rl L 0 = x := by rw [e1, rl_zero]
      have hB : ∀ q, rl B q = rl L (q + 1) := fun q => by rw [e1, rl_succ]
      have hcc : ∀ q, cum L (q + 1) = x.length + cum B q := by rw [e1]; exact cum_cons x B
      refine (c_look50 hs0 (l := dgs L) h16 (by omega) rhFU M1 0 0 [] x B hF.1 (by rw [← hx]; exact x8 0) (fun h hh => ?_) (by rw [e2]; rfl) (by omega) (by omega) z3 ?_).mono (fun M' h => ⟨hF.trans (h.1.sub (by simp)), ⟨?_, ?_, fun r hr => ?_⟩, fun k hk => ?_⟩)
      · have : h ∈ fl [] L := by rw [e1, fl_cons]; simp [hh]
        have := wL.lt.mp this; omega
      · have := congrArg List.length e2
        rw [List.length_append] at this
        have := FU_big; omega
      · rw [h.1.l (by simp)]; exact y0
      · rw [h.1.i (by simp)]; exact y1
      · cases r with
        | zero =>
          rw [h.2.2.2.2.1 0 (by omega), h.2.1, h.2.2.1, z1, hcc, hx]
          simp [cum]
        | succ r =>
          have h5 := h.2.2.2.1 r (by omega)
          rw [show 0 + 1 + r = r + 1 by omega] at h5
          rw [h5.1, h5.2.1, h5.2.2, hcc, hcc, hB]
          refine ⟨?_, ?_, rfl⟩ <;> congr 2 <;> omega
      · rw [h.1.i (by simp)]; exact yk k hk
  by_cases hv : (H : Int) + R - 1 < 0
  · simp (disch := omega) only [wp_some, wp_ck_T, wp_ck_t, wp_bind, wp_ite_t, wp_ite_f, J_lit, J_neg, J_add, J_sub, J_mul, J_lt, J_le, J_eq, J_toInt, J_clamp, J_suc, si_1, si_2, sl_1, sl_2, sl_3, Int.toNat_natCast, Int.reduceToNat, Nat.add_sub_cancel, Int.toNat_add, Int.toNat_mul, Int.toNat_sub'', true_and, and_true, and_self, if_true, if_false, not_true, not_false_eq_true, if_pos, if_neg, k0, k1, k2, k3, n1, n2, n3, f2, f3, f4, hk, h0, h1]
    rw [show J 0 = J (((dgs L).length : Nat) : Int) by rw [dgs_len wL]; congr 1; omega]
    have := h64 _ rfl
    rw [show J (((dgs L).length : Nat) : Int) = J 0 by rw [dgs_len wL]; congr 1; omega] at this ⊢
    exact this
  · simp (disch := omega) only [wp_some, wp_ck_T, wp_ck_t, wp_bind, wp_ite_t, wp_ite_f, J_lit, J_neg, J_add, J_sub, J_mul, J_lt, J_le, J_eq, J_toInt, J_clamp, J_suc, si_1, si_2, sl_1, sl_2, sl_3, Int.toNat_natCast, Int.reduceToNat, Nat.add_sub_cancel, Int.toNat_add, Int.toNat_mul, Int.toNat_sub'', true_and, and_true, and_self, if_true, if_false, not_true, not_false_eq_true, if_pos, if_neg, k0, k1, k2, k3, n1, n2, n3, f2, f3, f4, hk, h0, h1]
    rw [show J ((H : Int) + R - 1) = J (((dgs L).length : Nat) : Int) by rw [dgs_len wL]; congr 1; omega]
    exact h64 _ rfl
theorem c_count (hs : SS Γ M s) {R H : Nat} (hR : R ≤ 5) (hH : H ≤ 8) (wL : WA R H L) (hA : SA M s R L) {r : Nat} (hr : r < R) : f_X7_count Γ M s (J r) = some (J (rl L r).length) := by
  obtain ⟨k0, ⟨k1, n1⟩, ⟨k2, n2⟩, ⟨k3, n3⟩, -, -, -, f2, f3, f4, -, -, -⟩ := hs
  have h := hA.2.2 r hr
  have hc := cum_succ L r
  apply wp_eq
  rw [f_X7_count]
  simp (disch := omega) only [wp_some, wp_ck_T, wp_ck_t, wp_bind, wp_ite_t, wp_ite_f, J_lit, J_neg, J_add, J_sub, J_mul, J_lt, J_le, J_eq, J_toInt, J_clamp, J_suc, si_1, si_2, sl_1, sl_2, sl_3, Int.toNat_natCast, Int.reduceToNat, Nat.add_sub_cancel, Int.toNat_add, Int.toNat_mul, Int.toNat_sub'', true_and, and_true, and_self, if_true, if_false, not_true, not_false_eq_true, k0, k1, k2, n1, n2, f2, f3, h.1, h.2.1]
  congr 1; omega
theorem c_houseAt (hs : SS Γ M s) {R H : Nat} (hR : R ≤ 5) (hH : H ≤ 8) (wL : WA R H L) (hA : SA M s R L) {r i : Nat} (hr : r < R) (hi : i < (rl L r).length) : f_X7_houseAt Γ M s (J r) (J i) = some (J ((rl L r).getD i 0)) := by
  obtain ⟨k0, ⟨k1, n1⟩, ⟨k2, n2⟩, ⟨k3, n3⟩, -, -, -, f2, f3, f4, -, -, -⟩ := hs
  have h := hA.2.2 r hr
  have hc := cum_succ L r
  have hle := wL.le (r := r + 1) (by omega)
  have hl := dgs_len wL
  have hd := c_digit (Γ := Γ) (M := M) (dgs_16 wL hH) (by omega) (i := cum L r + r + i) (by omega)
  rw [dgs_get hi] at hd
  rw [show ((cum L r + r + i : Nat) : Int) = ((cum L r + r : Nat) : Int) + i by omega] at hd
  apply wp_eq
  rw [f_X7_houseAt]
  have h0 := hA.1
  unfold wn at h0
  simp (disch := omega) only [wp_some, wp_ck_T, wp_ck_t, wp_bind, wp_ite_t, wp_ite_f, J_lit, J_neg, J_add, J_sub, J_mul, J_lt, J_le, J_eq, J_toInt, J_clamp, J_suc, si_1, si_2, sl_1, sl_2, sl_3, Int.toNat_natCast, Int.reduceToNat, Nat.add_sub_cancel, Int.toNat_add, Int.toNat_mul, Int.toNat_sub'', true_and, and_true, and_self, if_true, if_false, not_true, not_false_eq_true, k0, k1, k2, n1, n2, f2, f3, h.1, h.2.1, h0, hd]
theorem c_railOf2 (hs : SS Γ M s) {R H : Nat} (hR : R ≤ 5) (hH : H ≤ 8) (wL : WA R H L) (hA : SA M s R L) {h : Nat} (hh : h < 8) : ∀ (d n r : Nat), r + d = R → d < n → (∀ r', r' < r → h ∉ rl L r') →
    ∃ v, f_X7_railOf_2 Γ M n s (J h) (J r) = some v ∧ ((∃ q, q < R ∧ h ∈ rl L q ∧ (∀ r', r' < q → h ∉ rl L r') ∧ v = J q) ∨ ((∀ r', r' < R → h ∉ rl L r') ∧ v = -1)) := by
  have hs0 := hs
  obtain ⟨k0, ⟨k1, n1⟩, ⟨k2, n2⟩, ⟨k3, n3⟩, -, -, -, f2, f3, f4, -, -, -⟩ := hs
  intro d
  induction d with
  | zero =>
    intro n r hd hn hI
    obtain ⟨n, rfl⟩ : ∃ k, n = k + 1 := ⟨n - 1, by omega⟩
    refine ⟨-1, ?_, Or.inr ⟨fun r' h' => hI r' (by omega), rfl⟩⟩
    apply wp_eq
    rw [f_X7_railOf_2]
    simp (disch := omega) only [wp_some, wp_ck_T, wp_ck_t, wp_bind, wp_ite_t, wp_ite_f, J_lit, J_neg, J_add, J_sub, J_mul, J_lt, J_le, J_eq, J_toInt, J_clamp, J_suc, si_1, si_2, sl_1, sl_2, sl_3, Int.toNat_natCast, Int.reduceToNat, Nat.add_sub_cancel, Int.toNat_add, Int.toNat_mul, Int.toNat_sub'', true_and, and_true, and_self, if_true, if_false, not_true, not_false_eq_true, k0, hA.2.1]
  | succ d ih =>
    intro n r hd hn hI
    obtain ⟨n, rfl⟩ : ∃ k, n = k + 1 := ⟨n - 1, by omega⟩
    have hq := hA.2.2 r (by omega)
    have hlt : ss (rl L r) < 2 ^ 8 := ss_lt (fun x hx => by have := wL.lt.mp (rl_sub hx); omega)
    have hb := ss_bit (rl L r) h
    rw [Nat.testBit_eq_decide_div_mod_eq, decide_eq_decide] at hb
    have e1 := J_ush (k := ss (rl L r)) (j := h) (by omega) (by omega)
    have e2 := J_and (ss (rl L r) / 2 ^ h) 1
    rw [Nat.and_one_is_mod] at e2
    have e3 : ((1 : Nat) : Int) = 1 := rfl
    rw [e3] at e2
    by_cases c : h ∈ rl L r
    · refine ⟨J r, ?_, Or.inl ⟨r, by omega, c, hI, rfl⟩⟩
      have := hb.mpr c
      rw [this] at e2
      apply wp_eq
      rw [f_X7_railOf_2]
      simp (disch := omega) only [wp_some, wp_ck_T, wp_ck_t, wp_bind, wp_ite_t, wp_ite_f, J_lit, J_neg, J_add, J_sub, J_mul, J_lt, J_le, J_eq, J_toInt, J_clamp, J_suc, si_1, si_2, sl_1, sl_2, sl_3, Int.toNat_natCast, Int.reduceToNat, Nat.add_sub_cancel, Int.toNat_add, Int.toNat_mul, Int.toNat_sub'', true_and, and_true, and_self, if_true, if_false, not_true, not_false_eq_true, k0, k3, n3, f4, hA.2.1, hq.2.2, e1, e2]
    · obtain ⟨v, hv, hv2⟩ := ih n (r + 1) (by omega) (by omega) (fun r' h' => by
        by_cases e : r' = r
        · rw [e]; exact c
        · exact hI r' (by omega))
      refine ⟨v, ?_, hv2⟩
      have : ss (rl L r) / 2 ^ h % 2 = 0 := by
        rcases Nat.mod_two_eq_zero_or_one (ss (rl L r) / 2 ^ h) with e | e
        · exact e
        · exact absurd (hb.mp e) c
      rw [this] at e2
      apply wp_eq
      rw [f_X7_railOf_2]
      simp (disch := omega) only [wp_some, wp_ck_T, wp_ck_t, wp_bind, wp_ite_t, wp_ite_f, J_lit, J_neg, J_add, J_sub, J_mul, J_lt, J_le, J_eq, J_toInt, J_clamp, J_suc, si_1, si_2, sl_1, sl_2, sl_3, Int.toNat_natCast, Int.reduceToNat, Nat.add_sub_cancel, Int.toNat_add, Int.toNat_mul, Int.toNat_sub'', true_and, and_true, and_self, if_true, if_false, not_true, not_false_eq_true, k0, k3, n3, f4, hA.2.1, hq.2.2, e1, e2, hv]
end
