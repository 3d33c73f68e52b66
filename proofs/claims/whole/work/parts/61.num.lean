/-! NUMBERS: 32-bit numbers as integers, steps of a function that may be none -/
def J (z : Int) : Int32 := Int32.ofInt z
theorem J_lit (n : Nat) : (OfNat.ofNat n : Int32) = J (OfNat.ofNat n) := (Int32.ofInt_eq_ofNat (n := n)).symm
theorem J_neg (a : Int) : -(J a) = J (-a) := (Int32.ofInt_neg a).symm
theorem J_add (a b : Int) : J a + J b = J (a + b) := (Int32.ofInt_add a b).symm
theorem J_sub (a b : Int) : J a - J b = J (a - b) := (Int32.ofInt_sub a b).symm
theorem J_mul (a b : Int) : J a * J b = J (a * b) := (Int32.ofInt_mul a b).symm
theorem J_toInt {a : Int} (h : -2147483648 ≤ a) (h2 : a < 2147483648) : (J a).toInt = a := Int32.toInt_ofInt_of_le h h2
theorem J_clamp {a : Int} (h : -2147483648 ≤ a) (h2 : a < 2147483648) : (J a).toNatClampNeg = a.toNat := Int32.toNatClampNeg_ofInt_of_le h h2
theorem J_of (x : Int32) : J x.toInt = x := Int32.ofInt_toInt x
theorem J_lt {a b : Int} (h : -2147483648 ≤ a) (h2 : a < 2147483648) (h3 : -2147483648 ≤ b) (h4 : b < 2147483648) : (J a < J b) = (a < b) := by
  rw [Int32.lt_iff_toInt_lt, J_toInt h h2, J_toInt h3 h4]
theorem J_le {a b : Int} (h : -2147483648 ≤ a) (h2 : a < 2147483648) (h3 : -2147483648 ≤ b) (h4 : b < 2147483648) : (J a ≤ J b) = (a ≤ b) := by
  rw [Int32.le_iff_toInt_le, J_toInt h h2, J_toInt h3 h4]
theorem J_eq {a b : Int} (h : -2147483648 ≤ a) (h2 : a < 2147483648) (h3 : -2147483648 ≤ b) (h4 : b < 2147483648) : (J a = J b) = (a = b) := by
  rw [← Int32.toInt_inj, J_toInt h h2, J_toInt h3 h4]
theorem J_div {a b : Int} (h : -2147483647 ≤ a) (h2 : a < 2147483648) (h3 : 0 < b) (h4 : b < 2147483648) : J a / J b = J (a.tdiv b) := by
  apply Int32.toInt_inj.mp
  have hb : (J b).toInt = b := J_toInt (by omega) h4
  have ha : (J a).toInt = a := J_toInt (by omega) h2
  have hm : J b ≠ -1 := by
    intro h5
    have := congrArg Int32.toInt h5
    rw [hb] at this
    have h6 : (-1 : Int32).toInt = -1 := by decide
    omega
  rw [Int32.toInt_div_of_ne_right _ _ hm, ha, hb]
  have h7 : (a.tdiv b).natAbs ≤ a.natAbs := by rw [Int.natAbs_tdiv]; exact Nat.div_le_self _ _
  exact (J_toInt (by omega) (by omega)).symm
theorem J_divN {a : Int} {b : Nat} (h : 0 ≤ a) (h2 : a < 2147483648) (h3 : 0 < b) (h4 : b < 2147483648) : J a / J b = J (a / b) := by
  rw [J_div (by omega) h2 (by omega) (by omega), Int.tdiv_eq_ediv_of_nonneg h]
theorem J_mod {a b : Int} (h : 0 ≤ a) (h2 : a < 2147483648) (h3 : 0 < b) (h4 : b < 2147483648) : J a % J b = J (a % b) := by
  apply Int32.toInt_inj.mp
  have hb : (J b).toInt = b := J_toInt (by omega) h4
  have ha : (J a).toInt = a := J_toInt (by omega) h2
  have h7 := Int.emod_nonneg a (show b ≠ 0 by omega)
  have h8 := Int.emod_lt_of_pos a h3
  rw [Int32.toInt_mod, ha, hb, Int.tmod_eq_emod_of_nonneg h, J_toInt (by omega) (by omega)]
/-! bits -/
theorem J_and (a b : Nat) : J a &&& J b = J ((a &&& b : Nat) : Int) := by
  show Int32.ofInt _ &&& Int32.ofInt _ = Int32.ofInt _
  rw [Int32.ofInt_eq_ofNat, Int32.ofInt_eq_ofNat, Int32.ofInt_eq_ofNat]
  apply Int32.toBitVec_inj.mp
  apply BitVec.eq_of_getLsbD_eq
  intro i hi
  simp [BitVec.getLsbD_ofNat, hi]
theorem J_or (a b : Nat) : J a ||| J b = J ((a ||| b : Nat) : Int) := by
  show Int32.ofInt _ ||| Int32.ofInt _ = Int32.ofInt _
  rw [Int32.ofInt_eq_ofNat, Int32.ofInt_eq_ofNat, Int32.ofInt_eq_ofNat]
  apply Int32.toBitVec_inj.mp
  apply BitVec.eq_of_getLsbD_eq
  intro i hi
  simp [BitVec.getLsbD_ofNat, hi]
theorem J_ush {k j : Nat} (hk : k < 2147483648) (hj : j < 32) : rhus (J k) (J j) = J ((k / 2 ^ j : Nat) : Int) := by
  have hs : ((J j).toUInt32 &&& Int32.toUInt32 31).toBitVec.toNat % 32 = j := by
    have : ∀ j : Fin 32, ((J (j.val : Int)).toUInt32 &&& Int32.toUInt32 31).toBitVec.toNat % 32 = j.val := by decide +kernel
    exact this ⟨j, hj⟩
  have e1 : (J k).toUInt32.toNat = k := by
    show (BitVec.ofInt 32 k).toNat = k
    rw [BitVec.toNat_ofInt]; omega
  have hd := Nat.div_le_self k (2 ^ j)
  have e2 : (((J j).toUInt32 &&& Int32.toUInt32 31).toBitVec % 32).toNat = j := by
    rw [BitVec.toNat_umod]; exact hs
  have e3 : (((J k).toUInt32.toBitVec) >>> (((J j).toUInt32 &&& Int32.toUInt32 31).toBitVec % 32)).toNat = k / 2 ^ j := by
    rw [BitVec.ushiftRight_eq', BitVec.toNat_ushiftRight, e2, Nat.shiftRight_eq_div_pow]
    exact congrArg (· / 2 ^ j) e1
  generalize k / 2 ^ j = q at *
  apply Int32.toInt_inj.mp
  rw [J_toInt (by omega) (by omega), rhus]
  show BitVec.toInt (((J k).toUInt32.toBitVec) >>> (((J j).toUInt32 &&& Int32.toUInt32 31).toBitVec % 32)) = _
  rw [BitVec.toInt_eq_toNat_of_lt (by rw [e3]; omega), e3]
/-! steps -/
def wp {α : Type} (o : Option α) (Q : α → Prop) : Prop := ∃ a, o = some a ∧ Q a
theorem wp_some {α : Type} (a : α) (Q : α → Prop) : wp (some a) Q = Q a := by
  apply propext; constructor
  · intro h; obtain ⟨b, h, hq⟩ := h; cases h; exact hq
  · exact fun h => ⟨a, rfl, h⟩
theorem wp_ck {α : Type} (c : Prop) [Decidable c] (x : Option α) (Q : α → Prop) : wp (rhck c x) Q = (c ∧ wp x Q) := by
  apply propext
  unfold rhck
  by_cases h : c
  · rw [if_pos h]; exact ⟨fun q => ⟨h, q⟩, fun q => q.2⟩
  · rw [if_neg h]; exact ⟨fun q => (by obtain ⟨a, q, _⟩ := q; cases q), fun q => absurd q.1 h⟩
theorem wp_ck_t {α : Type} {c : Prop} [Decidable c] (h : c) (x : Option α) (Q : α → Prop) : wp (rhck c x) Q = wp x Q := by rw [wp_ck]; exact propext ⟨fun q => q.2, fun q => ⟨h, q⟩⟩
theorem wp_ck_T {α : Type} (x : Option α) (Q : α → Prop) : wp (rhck True x) Q = wp x Q := wp_ck_t trivial x Q
theorem wp_bind {α β : Type} (o : Option α) (f : α → Option β) (Q : β → Prop) : wp (o.bind f) Q = wp o (fun a => wp (f a) Q) := by
  apply propext
  cases o with
  | none => exact ⟨fun q => (by obtain ⟨a, q, _⟩ := q; cases q), fun q => (by obtain ⟨a, q, _⟩ := q; cases q)⟩
  | some a => rw [wp_some]; rfl
theorem wp_ite_t {α : Type} {c : Prop} [Decidable c] (h : c) (x y : Option α) (Q : α → Prop) : wp (if c then x else y) Q = wp x Q := by rw [if_pos h]
theorem wp_ite_f {α : Type} {c : Prop} [Decidable c] (h : ¬ c) (x y : Option α) (Q : α → Prop) : wp (if c then x else y) Q = wp y Q := by rw [if_neg h]
theorem wp_ite {α : Type} (c : Prop) [Decidable c] (x y : Option α) (Q : α → Prop) : wp (if c then x else y) Q = if c then wp x Q else wp y Q := by
  split <;> rfl
theorem wp.mono {α : Type} {o : Option α} {P Q : α → Prop} (h : wp o P) (k : ∀ a, P a → Q a) : wp o Q := by
  obtain ⟨a, e, p⟩ := h
  exact ⟨a, e, k a p⟩
theorem rhck_t {α : Type} {c : Prop} [Decidable c] (h : c) (x : Option α) : rhck c x = x := if_pos h
/-! the memory -/
theorem si_1 (M : rhM) (r j : Nat) (v : Int32) (a k : Nat) : (rhsi M r j v).1 a k = if a = r ∧ k = j then v else M.1 a k := rfl
theorem si_2 (M : rhM) (r j : Nat) (v : Int32) : (rhsi M r j v).2 = M.2 := rfl
theorem sl_1 (M : rhM) (r j : Nat) (v : Int64) : (rhsl M r j v).1 = M.1 := rfl
theorem sl_2 (M : rhM) (r j : Nat) (v : Int64) (a k : Nat) : (rhsl M r j v).2.1 a k = if a = r ∧ k = j then v else M.2.1 a k := rfl
theorem sl_3 (M : rhM) (r j : Nat) (v : Int64) : (rhsl M r j v).2.2 = M.2.2 := rfl
/-- only these cells changed, and no reference -/
def Fr (W : List Nat) (M M' : rhM) : Prop := M'.2.2 = M.2.2 ∧ ∀ r, r ∉ W → M'.1 r = M.1 r ∧ M'.2.1 r = M.2.1 r
theorem Fr.refl (W : List Nat) (M : rhM) : Fr W M M := ⟨rfl, fun _ _ => ⟨rfl, rfl⟩⟩
theorem Fr.trans {W : List Nat} {M M' M'' : rhM} (h : Fr W M M') (h2 : Fr W M' M'') : Fr W M M'' :=
  ⟨h2.1.trans h.1, fun r hr => ⟨(h2.2 r hr).1.trans (h.2 r hr).1, (h2.2 r hr).2.trans (h.2 r hr).2⟩⟩
theorem Fr.sub {W W' : List Nat} {M M' : rhM} (h : Fr W M M') (k : ∀ r, r ∈ W → r ∈ W') : Fr W' M M' := ⟨h.1, fun r hr => h.2 r (fun h2 => hr (k r h2))⟩
theorem Fr.si {W : List Nat} {M M' : rhM} (h : Fr W M M') {r : Nat} (hr : r ∈ W) (j : Nat) (v : Int32) : Fr W M (rhsi M' r j v) :=
  ⟨h.1, fun a ha => ⟨(rhsi_o M' r j v (fun e => ha (by rw [e]; exact hr))).trans (h.2 a ha).1, (h.2 a ha).2⟩⟩
theorem Fr.sl {W : List Nat} {M M' : rhM} (h : Fr W M M') {r : Nat} (hr : r ∈ W) (j : Nat) (v : Int64) : Fr W M (rhsl M' r j v) :=
  ⟨h.1, fun a ha => ⟨(h.2 a ha).1, (rhsl_o M' r j v (fun e => ha (by rw [e]; exact hr))).trans (h.2 a ha).2⟩⟩
theorem Fr.i {W : List Nat} {M M' : rhM} (h : Fr W M M') {r : Nat} (hr : r ∉ W) : M'.1 r = M.1 r := (h.2 r hr).1
theorem Fr.l {W : List Nat} {M M' : rhM} (h : Fr W M M') {r : Nat} (hr : r ∉ W) : M'.2.1 r = M.2.1 r := (h.2 r hr).2
theorem FU_big : 1000000 < rhFU := by decide
theorem J_suc (k : Nat) : J ((k : Int) + 1) = J ((k + 1 : Nat) : Int) := rfl
theorem toNat_lit (n : Nat) : (OfNat.ofNat n : Int).toNat = OfNat.ofNat n := rfl
theorem cast_lit (n : Nat) : ((OfNat.ofNat n : Nat) : Int) = OfNat.ofNat n := rfl
