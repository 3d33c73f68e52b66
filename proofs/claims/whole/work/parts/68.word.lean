/-! DIGITS OF A 64-BIT NUMBER (the first rows are turned from the kit's BITS) -/
def jl (n : Nat) : Int64 := Int64.ofNat n
theorem jl_bv (n : Nat) : (jl n).toBitVec = BitVec.ofNat 64 n := rfl
theorem jl_lit (n : Nat) : (OfNat.ofNat n : Int64) = jl (OfNat.ofNat n) := rfl
theorem jl_cu : ∀ k, k < 64 → ((J (k : Nat)).toInt64.toUInt64 &&& Int64.toUInt64 63) = UInt64.ofNat k := by decide +kernel
theorem jl_c : ∀ k, k < 64 → ((J (k : Nat)).toInt64 &&& 63) = jl k := by decide +kernel
theorem jl_sm : ∀ k, k < 64 → (BitVec.ofNat 64 k).smod 64 = BitVec.ofNat 64 k := by decide +kernel
theorem jl_shr {n k : Nat} (hn : n < 2 ^ 64) (hk : k < 64) : rhul (jl n) (J k) = jl (n >>> k) := by
  rw [rhul, jl_cu k hk]
  apply Int64.toBitVec_inj.mp
  apply BitVec.eq_of_toNat_eq
  show ((jl n).toUInt64 >>> UInt64.ofNat k).toNat = (BitVec.ofNat 64 _).toNat
  have h1 : (UInt64.ofNat k).toNat = k := by
    show (BitVec.ofNat 64 k).toNat = k
    rw [BitVec.toNat_ofNat, Nat.mod_eq_of_lt (by omega)]
  have h2 : (jl n).toUInt64.toNat = n := by
    show (BitVec.ofNat 64 n).toNat = n
    rw [BitVec.toNat_ofNat, Nat.mod_eq_of_lt hn]
  rw [UInt64.toNat_shiftRight, h1, h2, Nat.mod_eq_of_lt hk, BitVec.toNat_ofNat, Nat.mod_eq_of_lt]
  rw [Nat.shiftRight_eq_div_pow]
  exact Nat.lt_of_le_of_lt (Nat.div_le_self _ _) hn
theorem jl_shl (n : Nat) {k : Nat} (hk : k < 64) : rhsh (jl n) (J k) = jl (n <<< k) := by
  rw [rhsh, jl_c k hk]
  apply Int64.toBitVec_inj.mp
  rw [Int64.toBitVec_shiftLeft, jl_bv, jl_bv, jl_bv, jl_sm k hk]
  apply BitVec.eq_of_toNat_eq
  rw [BitVec.shiftLeft_eq', BitVec.toNat_shiftLeft, BitVec.toNat_ofNat, BitVec.toNat_ofNat, BitVec.toNat_ofNat, Nat.mod_eq_of_lt (show k < 2 ^ 64 by omega), Nat.shiftLeft_eq, Nat.shiftLeft_eq, Nat.mul_mod, Nat.mod_mod, ← Nat.mul_mod]
theorem jl_and (a b : Nat) : jl a &&& jl b = jl (a &&& b) := by
  apply Int64.toBitVec_inj.1
  show BitVec.ofNat 64 a &&& BitVec.ofNat 64 b = BitVec.ofNat 64 (a &&& b)
  apply BitVec.eq_of_getLsbD_eq
  intro i hi
  simp [hi]
theorem jl_or (a b : Nat) : jl a ||| jl b = jl (a ||| b) := by
  apply Int64.toBitVec_inj.1
  show BitVec.ofNat 64 a ||| BitVec.ofNat 64 b = BitVec.ofNat 64 (a ||| b)
  apply BitVec.eq_of_getLsbD_eq
  intro i hi
  simp [hi]
theorem jl_not (a : Nat) : jl a ^^^ (-1 : Int64) = jl (a ^^^ (2 ^ 64 - 1)) := by
  apply Int64.toBitVec_inj.1
  show BitVec.ofNat 64 a ^^^ BitVec.ofNat 64 (2 ^ 64 - 1) = BitVec.ofNat 64 (a ^^^ (2 ^ 64 - 1))
  apply BitVec.eq_of_getLsbD_eq
  intro i hi
  rw [BitVec.getLsbD_xor, BitVec.getLsbD_ofNat, BitVec.getLsbD_ofNat, BitVec.getLsbD_ofNat, Nat.testBit_xor]
  simp [hi]
theorem jl_pred {a : Nat} (h : 1 ≤ a) : jl a - (1 : Int64) = jl (a - 1) := by
  have h2 : jl (a - 1) + 1 = jl a := by
    apply Int64.toBitVec_inj.1
    show BitVec.ofNat 64 (a - 1) + BitVec.ofNat 64 1 = BitVec.ofNat 64 a
    rw [← BitVec.ofNat_add, Nat.sub_add_cancel h]
  rw [← h2, Int64.add_sub_cancel]
theorem jl_inj {a b : Nat} (ha : a < 2 ^ 64) (hb : b < 2 ^ 64) : jl a = jl b ↔ a = b := by
  refine ⟨fun h => ?_, fun h => by rw [h]⟩
  have := congrArg (fun x => x.toBitVec.toNat) h
  simp only [jl_bv, BitVec.toNat_ofNat] at this
  rwa [Nat.mod_eq_of_lt ha, Nat.mod_eq_of_lt hb] at this
theorem jl_to32 (a : Nat) : (jl a).toInt32 = J ((a % 2 ^ 32 : Nat) : Int) := by
  show (Int64.ofNat a).toInt32 = _
  rw [Int64.toInt32_ofNat', J, Int32.ofInt_eq_ofNat]
  apply Int32.toBitVec_inj.1
  show BitVec.ofNat 32 a = BitVec.ofNat 32 (a % 2 ^ 32)
  apply BitVec.eq_of_toNat_eq
  rw [BitVec.toNat_ofNat, BitVec.toNat_ofNat, Nat.mod_mod]
def dg : List Nat → Nat
  | [] => 0
  | x :: l => x + 16 * dg l
theorem dg_lt : ∀ {l : List Nat}, (∀ x, x ∈ l → x < 16) → dg l < 2 ^ (4 * l.length)
  | [], _ => by simp [dg]
  | x :: l, h => by
    have h1 := dg_lt (l := l) (fun y hy => h y (List.mem_cons_of_mem _ hy))
    have h2 := h x List.mem_cons_self
    rw [List.length_cons, show 4 * (l.length + 1) = 4 * l.length + 4 by omega, Nat.pow_add, dg]; omega
theorem dg_div : ∀ {l : List Nat} (i : Nat), (∀ x, x ∈ l → x < 16) → dg l / 2 ^ (4 * i) % 16 = l.getD i 0
  | [], i, _ => by simp [dg]
  | x :: l, 0, h => by
    have h2 := h x List.mem_cons_self
    rw [dg, List.getD_cons_zero]; simp; omega
  | x :: l, i + 1, h => by
    have h1 := dg_div (l := l) i (fun y hy => h y (List.mem_cons_of_mem _ hy))
    have h2 := h x List.mem_cons_self
    rw [List.getD_cons_succ, ← h1, show 4 * (i + 1) = 4 + 4 * i by omega, Nat.pow_add, ← Nat.div_div_eq_div_mul, dg]
    congr 2; omega
theorem gd16 {l : List Nat} (h : ∀ x, x ∈ l → x < 16) (i : Nat) : l.getD i 0 < 16 := by
  by_cases hi : i < l.length
  · exact h _ (gd_mem _ hi)
  · rw [gd_big _ (by omega)]; omega
theorem dg_bit {l : List Nat} (h : ∀ x, x ∈ l → x < 16) (i j : Nat) (hj : j < 4) : (dg l).testBit (4 * i + j) = (l.getD i 0).testBit j := by
  rw [← dg_div i h, Nat.testBit_eq_decide_div_mod_eq, Nat.testBit_eq_decide_div_mod_eq, Nat.pow_add, ← Nat.div_div_eq_div_mul]
  generalize dg l / 2 ^ (4 * i) = q
  congr 1
  have : j = 0 ∨ j = 1 ∨ j = 2 ∨ j = 3 := by omega
  rcases this with rfl | rfl | rfl | rfl <;> simp <;> omega
theorem dg_inj : ∀ {a b : List Nat}, (∀ x, x ∈ a → x < 16) → (∀ x, x ∈ b → x < 16) → a.length = b.length → dg a = dg b → a = b
  | [], [], _, _, _, _ => rfl
  | [], y :: b, _, _, h, _ => by simp at h
  | x :: a, [], _, _, h, _ => by simp at h
  | x :: a, y :: b, ha, hb, hl, h => by
    have h1 := ha x List.mem_cons_self
    have h2 := hb y List.mem_cons_self
    rw [dg, dg] at h
    have := dg_inj (fun z hz => ha z (List.mem_cons_of_mem _ hz)) (fun z hz => hb z (List.mem_cons_of_mem _ hz)) (by simpa using hl) (by omega)
    rw [this, show x = y by omega]
theorem bit4 (P : Nat → Prop) (h : ∀ q j, j < 4 → P (4 * q + j)) : ∀ i, P i := by
  intro i
  have := h (i / 4) (i % 4) (by omega)
  rwa [show 4 * (i / 4) + i % 4 = i by omega] at this
theorem gd4 (P A B S : List Nat) (i : Nat) : (P ++ (A ++ (B ++ S))).getD i 0 = if i < P.length then P.getD i 0 else if i < P.length + A.length then A.getD (i - P.length) 0 else if i < P.length + A.length + B.length then B.getD (i - P.length - A.length) 0 else S.getD (i - P.length - A.length - B.length) 0 := by
  by_cases c1 : i < P.length
  · rw [if_pos c1, gd_l _ c1]
  · rw [if_neg c1, gd_r _ (by omega)]
    by_cases c2 : i < P.length + A.length
    · rw [if_pos c2, gd_l _ (by omega)]
    · rw [if_neg c2, gd_r _ (by omega)]
      by_cases c3 : i < P.length + A.length + B.length
      · rw [if_pos c3, gd_l _ (by omega)]
      · rw [if_neg c3, gd_r _ (by omega)]
theorem dg_swap {P A B S : List Nat} (h : ∀ x, x ∈ P ++ (A ++ (B ++ S)) → x < 16) (hl : (P ++ (A ++ (B ++ S))).length ≤ 15) :
    ((dg (P ++ (A ++ (B ++ S))) &&& (((2 ^ (4 * (A.length + B.length)) - 1) <<< (4 * P.length)) ^^^ (2 ^ 64 - 1))) ||| ((dg (P ++ (A ++ (B ++ S))) >>> (4 * (P.length + A.length)) &&& (2 ^ (4 * B.length) - 1)) <<< (4 * P.length)))
      ||| ((dg (P ++ (A ++ (B ++ S))) >>> (4 * P.length) &&& (2 ^ (4 * A.length) - 1)) <<< (4 * (P.length + B.length))) = dg (P ++ (B ++ (A ++ S))) := by
  have h' : ∀ x, x ∈ P ++ (B ++ (A ++ S)) → x < 16 := by
    intro x hx; apply h; simp only [List.mem_append] at hx ⊢
    rcases hx with h | h | h | h <;> simp [h]
  simp only [List.length_append] at hl
  apply Nat.eq_of_testBit_eq
  apply bit4
  intro q j hj
  rw [dg_bit h' q j hj, Nat.testBit_or, Nat.testBit_or, Nat.testBit_and, Nat.testBit_xor, Nat.testBit_shiftLeft, Nat.testBit_shiftLeft, Nat.testBit_shiftLeft, Nat.testBit_two_pow_sub_one, Nat.testBit_two_pow_sub_one, Nat.testBit_and, Nat.testBit_and, Nat.testBit_two_pow_sub_one, Nat.testBit_two_pow_sub_one, Nat.testBit_shiftRight, Nat.testBit_shiftRight, dg_bit h q j hj]
  by_cases c1 : q < P.length
  · simp (disch := omega) only [gd4, if_pos, decide_eq_true, decide_eq_false, Bool.false_and, Bool.or_false, Bool.false_xor, Bool.and_true]
  · have e1 : 4 * (P.length + A.length) + (4 * q + j - 4 * P.length) = 4 * (q + A.length) + j := by omega
    rw [e1, dg_bit h _ j hj]
    by_cases c2 : q < P.length + B.length
    · simp (disch := omega) only [gd4, if_pos, if_neg, decide_eq_true, decide_eq_false, Bool.false_and, Bool.or_false, Bool.true_and, Bool.and_true, Bool.xor_self, Bool.and_false, Bool.false_or]
      congr 2; omega
    · have e2 : 4 * P.length + (4 * q + j - 4 * (P.length + B.length)) = 4 * (q - B.length) + j := by omega
      rw [e2, dg_bit h _ j hj]
      by_cases c3 : q < P.length + A.length + B.length
      · simp (disch := omega) only [gd4, if_pos, if_neg, decide_eq_true, decide_eq_false, Bool.false_and, Bool.or_false, Bool.true_and, Bool.and_true, Bool.xor_self, Bool.and_false, Bool.false_or]
        congr 2; omega
      · by_cases c4 : q < 15
        · simp (disch := omega) only [gd4, if_pos, if_neg, decide_eq_true, decide_eq_false, Bool.false_and, Bool.or_false, Bool.true_and, Bool.and_true, Bool.false_xor, Bool.and_false, Bool.false_or]
          congr 2; omega
        · rw [gd_big (a := P ++ (A ++ (B ++ S))) (n := q) _ (by simp only [List.length_append]; omega), gd_big (a := P ++ (B ++ (A ++ S))) _ (by simp only [List.length_append]; omega)]
          simp (disch := omega) only [decide_eq_false, Bool.false_and, Bool.or_false, Bool.and_false, Nat.zero_testBit]
