/-! TOKENS OF A TEXT -/
def bt (bs : List Int32) (i : Nat) : Int := (bs.getD i 0).toInt
def isBl (b : Int) : Bool := decide (b = 32 ∨ b = 10)
def isLe (b : Int) : Bool := decide (97 ≤ b ∧ b ≤ 122)
def isDi (b : Int) : Bool := decide (48 ≤ b ∧ b ≤ 57)
def isSg (b : Int) : Bool := decide (b = 59 ∨ b = 40 ∨ b = 41 ∨ b = 60 ∨ b = 62 ∨ b = 61 ∨ b = 43 ∨ b = 45 ∨ b = 42 ∨ b = 47)
/-- the first place from i on whose byte is not one of P's -/
def skp (P : Int → Bool) (bs : List Int32) (i : Nat) : Nat := i + ((bs.drop i).takeWhile (fun b => P b.toInt)).length
theorem bt_ge {bs : List Int32} {i : Nat} (h : bs.length ≤ i) : bt bs i = 0 := by
  unfold bt
  rw [List.getD_eq_getElem?_getD, List.getElem?_eq_none h]; rfl
theorem bt_lt {bs : List Int32} {i : Nat} (h : i < bs.length) : bt bs i = (bs[i]).toInt := by
  unfold bt
  rw [List.getD_eq_getElem?_getD, List.getElem?_eq_getElem h]; rfl
theorem Bs_bt {f : Nat → Int32} {bs : List Int32} (h : Bs f bs) {i : Nat} (hi : i < bs.length) : f i = J (bt bs i) := by
  rw [bt_lt hi, J_of]
  exact h i _ (List.getElem?_eq_getElem hi)
theorem skp_t {P : Int → Bool} {bs : List Int32} {i : Nat} (h0 : P 0 = false) (h : P (bt bs i) = true) : i < bs.length ∧ skp P bs i = skp P bs (i + 1) := by
  have hi : i < bs.length := by
    by_cases c : i < bs.length
    · exact c
    · rw [bt_ge (by omega), h0] at h; cases h
  refine ⟨hi, ?_⟩
  unfold skp
  rw [List.drop_eq_getElem_cons hi, List.takeWhile_cons_of_pos (by rw [← bt_lt hi]; exact h), List.length_cons]
  omega
theorem skp_f {P : Int → Bool} {bs : List Int32} {i : Nat} (h : P (bt bs i) = false) : skp P bs i = i := by
  unfold skp
  by_cases hi : i < bs.length
  · rw [List.drop_eq_getElem_cons hi, List.takeWhile_cons_of_neg (by rw [← bt_lt hi, h]; exact Bool.false_ne_true)]; rfl
  · rw [List.drop_eq_nil_of_le (by omega)]; rfl
theorem skp_ge {P : Int → Bool} {bs : List Int32} {i : Nat} : i ≤ skp P bs i := by unfold skp; omega
theorem skp_le {P : Int → Bool} {bs : List Int32} {i : Nat} (h : i ≤ bs.length) : skp P bs i ≤ bs.length := by
  unfold skp
  have := (List.takeWhile_sublist (fun b : Int32 => P b.toInt) (l := bs.drop i)).length_le
  rw [List.length_drop] at this
  omega
theorem skp_out {P : Int → Bool} (h0 : P 0 = false) {bs : List Int32} : ∀ (d i : Nat), bs.length - i ≤ d → P (bt bs (skp P bs i)) = false := by
  intro d
  induction d with
  | zero =>
    intro i hi
    have : P (bt bs i) = false := by rw [bt_ge (by omega), h0]
    rw [skp_f this, this]
  | succ d ih =>
    intro i hi
    by_cases c : P (bt bs i) = true
    · rw [(skp_t h0 c).2]; exact ih (i + 1) (by have := (skp_t h0 c).1; omega)
    · rw [skp_f (by simpa using c)]; simpa using c
theorem skp_in {P : Int → Bool} (h0 : P 0 = false) {bs : List Int32} : ∀ (d i j : Nat), bs.length - i ≤ d → i ≤ j → j < skp P bs i → P (bt bs j) = true := by
  intro d
  induction d with
  | zero =>
    intro i j hi h1 h2
    have : P (bt bs i) = false := by rw [bt_ge (by omega), h0]
    rw [skp_f this] at h2; omega
  | succ d ih =>
    intro i j hi h1 h2
    by_cases c : P (bt bs i) = true
    · by_cases e : j = i
      · rw [e]; exact c
      · rw [(skp_t h0 c).2] at h2
        exact ih (i + 1) j (by have := (skp_t h0 c).1; omega) (by omega) h2
    · rw [skp_f (by simpa using c)] at h2; omega
/-- a token behind place i: where it stands, where the next is sought, its letters, digits, kind, word, sign -/
def qp (bs : List Int32) (i : Nat) : Nat := skp isBl bs i
def wl (bs : List Int32) (p : Nat) : Nat → List Nat
  | 0 => []
  | k + 1 => wl bs p k ++ [(bt bs (p + k)).toNat]
def nvl (bs : List Int32) (p : Nat) : Nat → Nat
  | 0 => 0
  | k + 1 => nvl bs p k * 10 + ((bt bs (p + k)).toNat - 48)
def qn (bs : List Int32) (i : Nat) : Nat :=
  if isLe (bt bs (qp bs i)) = true then skp isLe bs (qp bs i) else if isDi (bt bs (qp bs i)) = true then skp isDi bs (qp bs i) else if qp bs i < bs.length then qp bs i + 1 else qp bs i
def qw (bs : List Int32) (i : Nat) : List Nat := wl bs (qp bs i) (min 8 (qn bs i - qp bs i))
def qv (bs : List Int32) (i : Nat) : Nat := nvl bs (qp bs i) (min 4 (qn bs i - qp bs i))
def qk (bs : List Int32) (i : Nat) : Nat :=
  if isLe (bt bs (qp bs i)) = true then (if 8 < qn bs i - qp bs i then 1 else if qw bs i ∈ kwL then 3 else 2)
  else if isDi (bt bs (qp bs i)) = true then (if 4 < qn bs i - qp bs i ∨ isLe (bt bs (qn bs i)) = true then 1 else 4)
  else if qp bs i < bs.length then (if isSg (bt bs (qp bs i)) = true then 5 else 1) else 0
def qx (bs : List Int32) (i : Nat) : Int := if qk bs i = 3 then (kwL.idxOf (qw bs i) : Nat) else -1
def qs (bs : List Int32) (i : Nat) : Int := if qk bs i = 5 then bt bs (qp bs i) else -1
theorem qp_le {bs : List Int32} {i : Nat} (h : i ≤ bs.length) : i ≤ qp bs i ∧ qp bs i ≤ bs.length := ⟨skp_ge, skp_le h⟩
theorem qn_le {bs : List Int32} {i : Nat} (h : i ≤ bs.length) : qp bs i ≤ qn bs i ∧ qn bs i ≤ bs.length := by
  have := (qp_le h).2
  unfold qn
  split
  · exact ⟨skp_ge, skp_le this⟩
  · split
    · exact ⟨skp_ge, skp_le this⟩
    · split <;> omega
theorem isLe0 : isLe 0 = false := by decide
theorem isDi0 : isDi 0 = false := by decide
theorem isBl0 : isBl 0 = false := by decide
/-- a token that is not the end takes a byte at least -/
theorem qn_lt {bs : List Int32} {i : Nat} (h : qk bs i ≠ 0) : qp bs i < qn bs i := by
  unfold qk at h
  unfold qn
  by_cases c : isLe (bt bs (qp bs i)) = true
  · rw [if_pos c, (skp_t isLe0 c).2]; exact skp_ge
  · rw [if_neg c] at h ⊢
    by_cases c2 : isDi (bt bs (qp bs i)) = true
    · rw [if_pos c2, (skp_t isDi0 c2).2]; exact skp_ge
    · rw [if_neg c2] at h ⊢
      by_cases c3 : qp bs i < bs.length
      · rw [if_pos c3]; omega
      · rw [if_neg c3] at h; exact absurd rfl h
theorem wl_len (bs : List Int32) (p : Nat) : ∀ k, (wl bs p k).length = k
  | 0 => rfl
  | k + 1 => by rw [wl, List.length_append, wl_len bs p k]; rfl
theorem wl_let {bs : List Int32} {p n : Nat} (h : ∀ j, p ≤ j → j < n → isLe (bt bs j) = true) : ∀ k, p + k ≤ n → ∀ c, c ∈ wl bs p k → 97 ≤ c ∧ c ≤ 122
  | 0, _, c, hc => by cases hc
  | k + 1, hk, c, hc => by
    rw [wl, List.mem_append, List.mem_singleton] at hc
    rcases hc with hc | rfl
    · exact wl_let h k (by omega) c hc
    · have := h (p + k) (by omega) (by omega)
      unfold isLe at this
      rw [decide_eq_true_eq] at this
      omega
theorem nv_le {bs : List Int32} {p n : Nat} (h : ∀ j, p ≤ j → j < n → isDi (bt bs j) = true) : ∀ k, p + k ≤ n → nvl bs p k < 10 ^ k
  | 0, _ => Nat.one_pos
  | k + 1, hk => by
    have h1 := nv_le h k (by omega)
    have := h (p + k) (by omega) (by omega)
    unfold isDi at this
    rw [decide_eq_true_eq] at this
    rw [nvl, Nat.pow_succ]; omega
theorem qv_le {bs : List Int32} {i : Nat} (h : qk bs i = 4) : qv bs i ≤ 9999 := by
  unfold qk at h
  by_cases c : isLe (bt bs (qp bs i)) = true
  · rw [if_pos c] at h; split at h; · cases h
    split at h <;> cases h
  rw [if_neg c] at h
  by_cases c2 : isDi (bt bs (qp bs i)) = true
  · unfold qv
    have e : qn bs i = skp isDi bs (qp bs i) := by unfold qn; rw [if_neg c, if_pos c2]
    have hge : qp bs i ≤ qn bs i := by rw [e]; exact skp_ge
    have := nv_le (n := skp isDi bs (qp bs i)) (fun j => skp_in isDi0 _ (qp bs i) j (Nat.le_refl _)) (min 4 (qn bs i - qp bs i)) (by rw [← e]; omega)
    have h2 : 10 ^ (min 4 (qn bs i - qp bs i)) ≤ 10 ^ 4 := Nat.pow_le_pow_right (by decide) (by omega)
    have h3 : (10 : Nat) ^ 4 = 10000 := rfl
    generalize 10 ^ (min 4 (qn bs i - qp bs i)) = z at *
    omega
  · rw [if_neg c2] at h; split at h
    · split at h <;> cases h
    · cases h
/-! names as numbers -/
def enb (m s : Nat) (l : List Nat) : Nat := l.foldl (fun a c => a * m + (c - s)) 0
theorem enc_enb (l : List Nat) : enc l = enb 32 96 l := rfl
theorem enb_snoc (m s : Nat) (l : List Nat) (c : Nat) : enb m s (l ++ [c]) = enb m s l * m + (c - s) := by
  unfold enb; rw [List.foldl_append]; rfl
theorem enb_lt {m s : Nat} (hm : 0 < m) : ∀ (n : Nat) (l : List Nat), l.length = n → (∀ c, c ∈ l → s < c ∧ c - s < m) → enb m s l < m ^ n := by
  intro n
  induction n with
  | zero => intro l hl _; rw [List.length_eq_zero_iff.mp hl]; exact Nat.one_pos
  | succ n ih =>
    intro l hl h
    obtain ⟨l', c, rfl⟩ : ∃ l' c, l = l' ++ [c] := ⟨l.dropLast, l.getLast (by intro e; rw [e] at hl; cases hl), (List.dropLast_concat_getLast _).symm⟩
    rw [List.length_append, List.length_singleton] at hl
    have h1 := ih l' (by omega) (fun x hx => h x (by simp [hx]))
    have h2 := h c (by simp)
    rw [enb_snoc, Nat.pow_succ]
    have : (enb m s l' + 1) * m ≤ m ^ n * m := Nat.mul_le_mul_right m h1
    rw [Nat.add_mul, Nat.one_mul] at this
    omega
theorem enb_inj {m s : Nat} : ∀ (n : Nat) (l l' : List Nat), l.length = n → (∀ c, c ∈ l → s < c ∧ c - s < m) → (∀ c, c ∈ l' → s < c ∧ c - s < m) → enb m s l = enb m s l' → l = l' := by
  intro n
  induction n with
  | zero =>
    intro l l' hl h h' e
    rw [List.length_eq_zero_iff.mp hl] at e ⊢
    by_cases c : l' = []
    · exact c.symm
    · exfalso
      have : l' = l'.dropLast ++ [l'.getLast c] := (List.dropLast_concat_getLast _).symm
      rw [this, enb_snoc] at e
      have h2 := h' _ (List.getLast_mem c)
      have : enb m s ([] : List Nat) = 0 := rfl
      omega
  | succ n ih =>
    intro l l' hl h h' e
    have hc : l ≠ [] := by intro e; rw [e] at hl; cases hl
    have hl1 : l = l.dropLast ++ [l.getLast hc] := (List.dropLast_concat_getLast _).symm
    have g1 := h _ (List.getLast_mem hc)
    rw [hl1, enb_snoc] at e
    by_cases c : l' = []
    · exfalso
      rw [c] at e
      have : enb m s ([] : List Nat) = 0 := rfl
      omega
    · have hl2 : l' = l'.dropLast ++ [l'.getLast c] := (List.dropLast_concat_getLast _).symm
      have g2 := h' _ (List.getLast_mem c)
      rw [hl2, enb_snoc] at e
      have e1 : l.getLast hc - s = l'.getLast c - s := by
        have := congrArg (· % m) e
        simp only [Nat.mul_comm _ m, Nat.mul_add_mod, Nat.mod_eq_of_lt g1.2, Nat.mod_eq_of_lt g2.2] at this
        exact this
      have e2 : enb m s l.dropLast = enb m s l'.dropLast := by
        rw [e1] at e
        have h3 := Nat.add_right_cancel e
        exact Nat.eq_of_mul_eq_mul_right (by omega) h3
      rw [hl1, hl2]
      rw [ih l.dropLast l'.dropLast (by rw [List.length_dropLast]; omega) (fun x hx => h x ((List.dropLast_sublist _).mem hx)) (fun x hx => h' x ((List.dropLast_sublist _).mem hx)) e2, show l.getLast hc = l'.getLast c by omega]
theorem kwL_ok : (kwL.all fun w => w.length ≤ 8 && w.all fun c => 97 ≤ c && c ≤ 122) = true ∧ kwL.length = 18 ∧ kwL.Nodup := by decide
theorem kwL_mem {w : List Nat} (h : w ∈ kwL) : w.length ≤ 8 ∧ ∀ c, c ∈ w → 97 ≤ c ∧ c ≤ 122 := by
  have := List.all_eq_true.mp kwL_ok.1 w h
  simp only [Bool.and_eq_true, decide_eq_true_eq, List.all_eq_true] at this
  exact this
