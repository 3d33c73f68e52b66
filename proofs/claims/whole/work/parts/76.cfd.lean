/-! WHAT A SEARCH KNOWS OF STATES: LEADS, WEIGHTS, LISTS -/
theorem FU_big2 : 900000000 < rhFU := by decide
def ld (p par cd : Nat) : Nat := (p * 65536 + par) * 512 + cd
theorem ld_lt {p par cd : Nat} (hp : p ≤ 60480) (hr : par < 65536) (hc : cd < 512) : ld p par cd < 2 ^ 42 := by unfold ld; omega
theorem J_to64 {k : Nat} (h : k < 2147483648) : (J (k : Nat)).toInt64 = jl k := by
  apply Int64.toInt_inj.mp
  rw [Int32.toInt_toInt64, J_toInt (by omega) (by omega), jl, Int64.toInt_ofNat_of_lt (by omega)]
theorem jl_mi1 : (-1 : Int64) = jl (2 ^ 64 - 1) := by decide
theorem ld_new {p par cd : Nat} (hp : p ≤ 60480) (hr : par < 65536) (hc : cd < 512) : ¬ jl (ld p par cd) = -1 := by
  have := ld_lt hp hr hc
  rw [jl_mi1, jl_inj (by omega) (by decide)]; omega
theorem J_and65 (a : Nat) : J (a : Nat) &&& 65535 = J ((a % 65536 : Nat) : Int) := by
  rw [show (65535 : Int32) = J ((65535 : Nat) : Int) from rfl, J_and, show (65535 : Nat) = 2 ^ 16 - 1 by decide, Nat.and_two_pow_sub_one_eq_mod]
theorem J_and511 (a : Nat) : J (a : Nat) &&& 511 = J ((a % 512 : Nat) : Int) := by
  rw [show (511 : Int32) = J ((511 : Nat) : Int) from rfl, J_and, show (511 : Nat) = 2 ^ 9 - 1 by decide, Nat.and_two_pow_sub_one_eq_mod]
theorem J_1023 (a : Nat) : J a &&& 1023 = J ((a % 1024 : Nat) : Int) := by
  rw [show (1023 : Int32) = J ((1023 : Nat) : Int) from rfl, J_and, show (1023 : Nat) = 2 ^ 10 - 1 by decide, Nat.and_two_pow_sub_one_eq_mod]
theorem ld_pulls {p par cd : Nat} (hp : p ≤ 60480) (hr : par < 65536) (hc : cd < 512) : Int64.toInt32 (rhul (jl (ld p par cd)) 25) = J p := by
  have := ld_lt hp hr hc
  rw [show (25 : Int32) = J ((25 : Nat) : Int) from rfl, jl_shr (by omega) (by omega), jl_to32, Nat.shiftRight_eq_div_pow]
  congr 2; unfold ld; omega
theorem ld_parent {p par cd : Nat} (hp : p ≤ 60480) (hr : par < 65536) (hc : cd < 512) : (Int64.toInt32 (rhul (jl (ld p par cd)) 9)) &&& 65535 = J par := by
  have := ld_lt hp hr hc
  rw [show (9 : Int32) = J ((9 : Nat) : Int) from rfl, jl_shr (by omega) (by omega), jl_to32, Nat.shiftRight_eq_div_pow, J_and65]
  congr 2; unfold ld; omega
theorem ld_code {p par cd : Nat} (hp : p ≤ 60480) (hr : par < 65536) (hc : cd < 512) : (Int64.toInt32 (jl (ld p par cd))) &&& 511 = J cd := by
  rw [jl_to32, J_and511]
  congr 2; unfold ld; omega
theorem ld_make {p par cd : Nat} (hp : p ≤ 60480) (hr : par < 65536) (hc : cd < 512) : (rhsh ((rhsh (jl p) 16) ||| (J (par : Nat)).toInt64) 9) ||| (J (cd : Nat)).toInt64 = jl (ld p par cd) := by
  rw [J_to64 (by omega), J_to64 (by omega), show (16 : Int32) = J ((16 : Nat) : Int) from rfl, jl_shl _ (by omega), jl_or, Nat.shiftLeft_eq, or_add (show par < 2 ^ 16 by omega), show (9 : Int32) = J ((9 : Nat) : Int) from rfl, jl_shl _ (by omega), jl_or, Nat.shiftLeft_eq, or_add (show cd < 2 ^ 9 by omega)]
  rfl
def FSh (Γ : rhG) (M : rhM) (F cp : Nat) : Prop := Γ.2.2.1 F = 1 ∧ (Γ.2.2.1 (F + 1) = 15 ∧ Γ.2.2.2 (F + 1) = 1024) ∧ (Γ.2.2.1 (F + 2) = 15 ∧ Γ.2.2.2 (F + 2) = 1024) ∧ (Γ.2.2.1 (F + 3) = 16 ∧ Γ.2.2.2 (F + 3) = cp) ∧ (Γ.2.2.1 (F + 4) = 15 ∧ Γ.2.2.2 (F + 4) = cp) ∧ (Γ.2.2.1 (F + 5) = 15 ∧ Γ.2.2.2 (F + 5) = cp) ∧
  M.2.2 F 5 = F + 1 ∧ M.2.2 F 6 = F + 2 ∧ M.2.2 F 2 = F + 3 ∧ M.2.2 F 3 = F + 4 ∧ M.2.2 F 4 = F + 5
theorem FSh.fr {Γ : rhG} {M M' : rhM} {F cp : Nat} (h : FSh Γ M F cp) (hF : M'.2.2 = M.2.2) : FSh Γ M' F cp := by unfold FSh; rw [hF]; exact h
/-! lists of states, both ways -/
def hdE : List Nat → Nat → Nat
  | [], e => e
  | x :: _, _ => x
def lastN : List Nat → Nat → Nat
  | [], p => p
  | x :: l, _ => lastN l x
def Ch (lk : Nat → Int32) : Nat → List Nat → Nat → Prop
  | _, [], _ => True
  | p, x :: l, e => lk x = J ((hdE l e * 65536 + p : Nat) : Int) ∧ Ch lk x l e
theorem hdE_app : ∀ (A B : List Nat) (e : Nat), hdE (A ++ B) e = hdE A (hdE B e)
  | [], _, _ => rfl
  | _ :: _, _, _ => rfl
theorem lastN_app : ∀ (A : List Nat) (x p : Nat), lastN (A ++ [x]) p = x
  | [], _, _ => rfl
  | a :: A, x, _ => lastN_app A x a
theorem Ch_app {lk : Nat → Int32} : ∀ {A : List Nat} {p : Nat} {B : List Nat} {e : Nat}, Ch lk p (A ++ B) e ↔ Ch lk p A (hdE B e) ∧ Ch lk (lastN A p) B e
  | [], p, B, e => by simp [Ch, lastN]
  | x :: A, p, B, e => by
    rw [List.cons_append, Ch, Ch, Ch_app (A := A), hdE_app, lastN, and_assoc]
theorem Ch_cong {lk lk' : Nat → Int32} : ∀ {l : List Nat} {p e : Nat}, (∀ y, y ∈ l → lk' y = lk y) → Ch lk p l e → Ch lk' p l e
  | [], _, _, _, _ => trivial
  | x :: l, p, e, h, hc => ⟨(h x List.mem_cons_self).trans hc.1, Ch_cong (fun y hy => h y (List.mem_cons_of_mem _ hy)) hc.2⟩
theorem lastN_mem : ∀ {A : List Nat} {p : Nat}, A ≠ [] → lastN A p ∈ A
  | [], _, h => absurd rfl h
  | [a], p, _ => List.mem_cons_self
  | a :: b :: A, p, _ => List.mem_cons_of_mem _ (lastN_mem (A := b :: A) (p := a) (by simp))
theorem hdE_mem {B : List Nat} {e : Nat} (h : B ≠ []) : hdE B e ∈ B := by
  cases B with
  | nil => exact absurd rfl h
  | cons b B => exact List.mem_cons_self
def uN {α : Type} (f : Nat → α) (k : Nat) (v : α) : Nat → α := fun j => if j = k then v else f j
theorem uN_eq {α : Type} (f : Nat → α) (k : Nat) (v : α) : uN f k v k = v := if_pos rfl
theorem uN_ne {α : Type} (f : Nat → α) {k j : Nat} (v : α) (h : j ≠ k) : uN f k v j = f j := if_neg h
/-- the lists that wait: n in all, the list k's are lst k, wt the weights -/
def WL (M : rhM) (F cp : Nat) (lst : Nat → List Nat) (wt : Nat → Nat) (n : Nat) : Prop := M.1 F 1 = J n ∧ ∀ k, k < 1024 → M.1 (F + 1) k = J (hdE (lst k) 65535 : Nat) ∧ M.1 (F + 2) k = J (lastN (lst k) 65535 : Nat) ∧ Ch (M.1 (F + 5)) 65535 (lst k) 65535 ∧ (lst k).Nodup ∧ ∀ x, x ∈ lst k → x < cp ∧ wt x % 1024 = k ∧ M.1 (F + 4) x = J (wt x) ∧ wt x < 2147483648
section
variable {Γ : rhG} {M : rhM} {F cp n : Nat} {lst : Nat → List Nat} {wt : Nat → Nat}
theorem WL.fr {M' : rhM} {W : List Nat} (h : WL M F cp lst wt n) (hF : Fr W M M') (h0 : F ∉ W) (h1 : F + 1 ∉ W) (h2 : F + 2 ∉ W) (h4 : F + 4 ∉ W) (h5 : F + 5 ∉ W) : WL M' F cp lst wt n := by
  unfold WL; rw [hF.i h0, hF.i h1, hF.i h2, hF.i h4, hF.i h5]; exact h
theorem lk_ahead {a b : Nat} (ha : a < 65536) (hb : b < 65536) : J ((a * 65536 + b : Nat) : Int) &&& 65535 = J b := by rw [J_and65]; congr 2; omega
theorem lk_behind {a b : Nat} (ha : a < 65536) (hb : b < 65536) : rhus (J ((a * 65536 + b : Nat) : Int)) 16 = J a := by
  rw [show (16 : Int32) = J ((16 : Nat) : Int) from rfl, J_ush2 (by omega) (by omega)]; congr 2; omega
theorem lk_make (a : Nat) {b : Nat} (hb : b < 65536) : (J (a : Nat) <<< (16 &&& 31)) ||| J (b : Nat) = J ((a * 65536 + b : Nat) : Int) := by
  have := J_shl a (k := 16) (by omega)
  rw [show ((16 : Int32) &&& 31) = J ((16 : Nat) : Int) &&& 31 from rfl, this, J_or, or_add (show b < 2 ^ 16 by omega)]
theorem lk_end {b : Nat} (hb : b < 65536) : ((-65536 : Int32)) ||| J (b : Nat) = J ((65535 * 65536 + b : Nat) : Int) := by
  rw [show (-65536 : Int32) = J ((65535 * 2 ^ 16 : Nat) : Int) by decide, J_or, or_add (show b < 2 ^ 16 by omega)]
theorem c_ahead (hS : FSh Γ M F cp) (hcp : cp ≤ 60480) {x a b : Nat} (hx : x < cp) (ha : a < 65536) (hb : b < 65536) (hl : M.1 (F + 5) x = J ((a * 65536 + b : Nat) : Int)) : f_X0_ahead Γ M F (J x) = some (J b) := by
  obtain ⟨k0, -, -, -, -, ⟨k5, n5⟩, -, -, -, -, r4⟩ := hS
  rw [f_X0_ahead, rhck_t k0, r4, rhck_t k5, n5, J_toInt (by omega) (by omega), rhck_t (by omega), J_clamp (by omega) (by omega), Int.toNat_natCast, hl, lk_ahead ha hb]
theorem c_behind0 (hS : FSh Γ M F cp) (hcp : cp ≤ 60480) {x a b : Nat} (hx : x < cp) (ha : a < 65536) (hb : b < 65536) (hl : M.1 (F + 5) x = J ((a * 65536 + b : Nat) : Int)) : f_X0_behind Γ M F (J x) = some (J a) := by
  obtain ⟨k0, -, -, -, -, ⟨k5, n5⟩, -, -, -, -, r4⟩ := hS
  rw [f_X0_behind, rhck_t k0, r4, rhck_t k5, n5, J_toInt (by omega) (by omega), rhck_t (by omega), J_clamp (by omega) (by omega), Int.toNat_natCast, hl, lk_behind ha hb]
theorem c_head (hS : FSh Γ M F cp) (hW : WL M F cp lst wt n) (v : Nat) : f_X0_headOf Γ M F (J v) = some (J (hdE (lst (v % 1024)) 65535 : Nat)) := by
  obtain ⟨k0, ⟨k1, n1⟩, -, -, -, -, r5, -⟩ := hS
  have hm := Nat.mod_lt v (show 0 < 1024 by decide)
  rw [f_X0_headOf, rhck_t k0, r5, rhck_t k1, n1, J_1023, J_toInt (by omega) (by omega), rhck_t (by omega), J_clamp (by omega) (by omega), Int.toNat_natCast, (hW.2 _ hm).1]
theorem WL.rng (hW : WL M F cp lst wt n) {k : Nat} (hk : k < 1024) (hcp : cp ≤ 60480) {x : Nat} (hx : x ∈ lst k) : x < 60480 := by
  have := ((hW.2 k hk).2.2.2.2 x hx).1; omega
theorem hdE_lt {B : List Nat} (h : ∀ x, x ∈ B → x < 60480) : hdE B 65535 < 65536 ∧ (B ≠ [] → hdE B 65535 < 60480) := by
  cases B with
  | nil => exact ⟨by decide, fun h => absurd rfl h⟩
  | cons b B => have := h b List.mem_cons_self; exact ⟨by show b < _; omega, fun _ => this⟩
theorem lastN_lt {A : List Nat} (h : ∀ x, x ∈ A → x < 60480) : lastN A 65535 < 65536 ∧ (A ≠ [] → lastN A 65535 < 60480) := by
  by_cases c : A = []
  · subst c; exact ⟨by decide, fun h => absurd rfl h⟩
  · have := h _ (lastN_mem (p := 65535) c); exact ⟨by omega, fun _ => this⟩
theorem c_behind (hS : FSh Γ M F cp) (hcp : cp ≤ 60480) (hW : WL M F cp lst wt n) {k : Nat} (hk : k < 1024) {A B : List Nat} {x : Nat} (hl : lst k = A ++ x :: B) : f_X0_behind Γ M F (J x) = some (J (hdE B 65535 : Nat)) := by
  have hc := (hW.2 k hk).2.2.1
  rw [hl, Ch_app] at hc
  have hr : ∀ y, y ∈ lst k → y < 60480 := fun y hy => hW.rng hk hcp hy
  rw [hl] at hr
  have hx := (hW.2 k hk).2.2.2.2 x (by rw [hl]; simp)
  exact c_behind0 hS hcp hx.1 (hdE_lt (fun y hy => hr y (by simp [hy]))).1 (lastN_lt (fun y hy => hr y (by simp [hy]))).1 hc.2.1
theorem c_wput (hS : FSh Γ M F cp) (hcp : cp ≤ 60480) (hW : WL M F cp lst wt n) (hn : n < 60480) {x v : Nat} (hx : x < cp) (hv : v < 2147483648) (hno : ∀ k, k < 1024 → x ∉ lst k) (Q : rhM → Prop)
    (hQ : ∀ M', Fr [F, F + 1, F + 2, F + 4, F + 5] M M' → M'.1 F 0 = M.1 F 0 → WL M' F cp (uN lst (v % 1024) (lst (v % 1024) ++ [x])) (uN wt x v) (n + 1) → (∀ j, j ≠ x → M'.1 (F + 4) j = M.1 (F + 4) j) → M'.1 (F + 4) x = J v → Q M') : wp (f_X0_put Γ M F (J x) (J v)) Q := by
  have hS0 := hS
  obtain ⟨k0, ⟨k1, n1⟩, ⟨k2, n2⟩, -, ⟨k4, n4⟩, ⟨k5, n5⟩, r5, r6, -, r3, r4⟩ := hS
  have hm := Nat.mod_lt v (show 0 < 1024 by decide)
  have hrng : ∀ k, k < 1024 → ∀ y, y ∈ lst k → y < 60480 := fun k hk y hy => hW.rng hk hcp hy
  obtain ⟨w0, hk⟩ := hW
  obtain ⟨h1, h2, h3, h4, h5⟩ := hk _ hm
  obtain ⟨l1, l2⟩ := lastN_lt (hrng _ hm)
  -- the last step
  have fin : ∀ M1 : rhM, Fr [F + 1, F + 5] M M1 → (∀ k, M1.1 (F + 1) k = if k = v % 1024 ∧ lst (v % 1024) = [] then J x else M.1 (F + 1) k) → (∀ lk' : Nat → Int32, (∀ j, j ≠ x → lk' j = M1.1 (F + 5) j) → lk' x = J ((65535 * 65536 + lastN (lst (v % 1024)) 65535 : Nat) : Int) → Ch lk' 65535 (lst (v % 1024) ++ [x]) 65535) → (∀ k, k < 1024 → k ≠ v % 1024 → Ch (M1.1 (F + 5)) 65535 (lst k) 65535) →
      wp (f_X0_put_49 Γ M1 F (J x) (J v) (J (v % 1024 : Nat)) (J (lastN (lst (v % 1024)) 65535 : Nat))) Q := by
    intro M1 F1 e1 e2 e3
    rw [f_X0_put_49, wp_ck_t k0, F1.1, r6, wp_ck_t k2, n2, J_toInt (by omega) (by omega), wp_ck_t (by omega), r4, wp_ck_t k5, n5, J_toInt (by omega) (by omega), wp_ck_t (by omega), r3, wp_ck_t k4, n4, wp_ck_t (by omega), J_clamp (by omega) (by omega), J_clamp (by omega) (by omega), Int.toNat_natCast, Int.toNat_natCast, lk_end l1]
    dsimp only
    have ew : (rhsi (rhsi (rhsi M1 (F + 2) (v % 1024) (J x)) (F + 5) x (J ((65535 * 65536 + lastN (lst (v % 1024)) 65535 : Nat) : Int))) (F + 4) x (J v)).1 F 1 = J n := by rw [si_1, if_neg (by omega), si_1, if_neg (by omega), si_1, if_neg (by omega), F1.i (by simp)]; exact w0
    rw [ew, show (1 : Int32) = J 1 from rfl, J_add, J_suc, wp_some]
    have F2 : Fr [F, F + 2, F + 4, F + 5] M1 (rhsi (rhsi (rhsi (rhsi M1 (F + 2) (v % 1024) (J x)) (F + 5) x (J ((65535 * 65536 + lastN (lst (v % 1024)) 65535 : Nat) : Int))) (F + 4) x (J v)) F 1 (J ((n + 1 : Nat) : Int))) := ((((Fr.refl _ _).si (by simp) _ _).si (by simp) _ _).si (by simp) _ _).si (by simp) _ _
    have g0 : (rhsi (rhsi (rhsi (rhsi M1 (F + 2) (v % 1024) (J x)) (F + 5) x (J ((65535 * 65536 + lastN (lst (v % 1024)) 65535 : Nat) : Int))) (F + 4) x (J v)) F 1 (J ((n + 1 : Nat) : Int))).1 F 0 = M1.1 F 0 := by rw [si_1, if_neg (by omega), si_1, if_neg (by omega), si_1, if_neg (by omega), si_1, if_neg (by omega)]
    have g1 : (rhsi (rhsi (rhsi (rhsi M1 (F + 2) (v % 1024) (J x)) (F + 5) x (J ((65535 * 65536 + lastN (lst (v % 1024)) 65535 : Nat) : Int))) (F + 4) x (J v)) F 1 (J ((n + 1 : Nat) : Int))).1 F 1 = J ((n + 1 : Nat) : Int) := by rw [si_1, if_pos ⟨rfl, rfl⟩]
    have g2 : ∀ k, (rhsi (rhsi (rhsi (rhsi M1 (F + 2) (v % 1024) (J x)) (F + 5) x (J ((65535 * 65536 + lastN (lst (v % 1024)) 65535 : Nat) : Int))) (F + 4) x (J v)) F 1 (J ((n + 1 : Nat) : Int))).1 (F + 2) k = if k = v % 1024 then J x else M1.1 (F + 2) k := fun k => by
      rw [si_1, if_neg (by omega), si_1, if_neg (by omega), si_1, if_neg (by omega), si_1]
      by_cases c : k = v % 1024
      · rw [if_pos ⟨rfl, c⟩, if_pos c]
      · rw [if_neg (by omega), if_neg c]
    have g4 : ∀ j, (rhsi (rhsi (rhsi (rhsi M1 (F + 2) (v % 1024) (J x)) (F + 5) x (J ((65535 * 65536 + lastN (lst (v % 1024)) 65535 : Nat) : Int))) (F + 4) x (J v)) F 1 (J ((n + 1 : Nat) : Int))).1 (F + 4) j = if j = x then J v else M1.1 (F + 4) j := fun j => by
      rw [si_1, if_neg (by omega), si_1]
      by_cases c : j = x
      · rw [if_pos ⟨rfl, c⟩, if_pos c]
      · rw [if_neg (by omega), if_neg c, si_1, if_neg (by omega), si_1, if_neg (by omega)]
    have g5 : ∀ j, j ≠ x → (rhsi (rhsi (rhsi (rhsi M1 (F + 2) (v % 1024) (J x)) (F + 5) x (J ((65535 * 65536 + lastN (lst (v % 1024)) 65535 : Nat) : Int))) (F + 4) x (J v)) F 1 (J ((n + 1 : Nat) : Int))).1 (F + 5) j = M1.1 (F + 5) j := fun j hj => by
      rw [si_1, if_neg (by omega), si_1, if_neg (by omega), si_1, if_neg (by omega), si_1, if_neg (by omega)]
    have g6 : (rhsi (rhsi (rhsi (rhsi M1 (F + 2) (v % 1024) (J x)) (F + 5) x (J ((65535 * 65536 + lastN (lst (v % 1024)) 65535 : Nat) : Int))) (F + 4) x (J v)) F 1 (J ((n + 1 : Nat) : Int))).1 (F + 5) x = J ((65535 * 65536 + lastN (lst (v % 1024)) 65535 : Nat) : Int) := by
      rw [si_1, if_neg (by omega), si_1, if_neg (by omega), si_1, if_pos ⟨rfl, rfl⟩]
    generalize rhsi (rhsi (rhsi (rhsi M1 (F + 2) (v % 1024) (J x)) (F + 5) x (J ((65535 * 65536 + lastN (lst (v % 1024)) 65535 : Nat) : Int))) (F + 4) x (J v)) F 1 (J ((n + 1 : Nat) : Int)) = M2 at *
    have F12 : M1.1 (F + 2) = M.1 (F + 2) := F1.i (by simp)
    have F14 : M1.1 (F + 4) = M.1 (F + 4) := F1.i (by simp)
    have F21 : M2.1 (F + 1) = M1.1 (F + 1) := F2.i (by simp)
    refine hQ M2 ((F1.sub (by simp)).trans (F2.sub (by simp))) (by rw [g0, F1.i (by simp)]) ⟨g1, fun k hk2 => ?_⟩ (fun j hj => by rw [g4, if_neg hj, F14]) (by rw [g4, if_pos rfl])
    obtain ⟨q1, q2, q3, q4, q5⟩ := hk k hk2
    by_cases c : k = v % 1024
    · subst c
      rw [uN_eq]
      refine ⟨?_, by rw [g2, if_pos rfl, lastN_app], e2 _ g5 g6, ?_, fun y hy => ?_⟩
      · rw [F21, e1]
        by_cases c2 : lst (v % 1024) = []
        · rw [if_pos ⟨rfl, c2⟩, c2]; rfl
        · rw [if_neg (fun q => c2 q.2), q1, hdE_app]
          cases hl : lst (v % 1024) with
          | nil => exact absurd hl c2
          | cons z l => rfl
      · rw [List.nodup_append]
        exact ⟨q4, by simp, fun a ha b hb => by rw [List.mem_singleton] at hb; intro e; exact hno _ hm (by rw [← hb, ← e]; exact ha)⟩
      · rcases List.mem_append.mp hy with hy | hy
        · have hyx : y ≠ x := fun e => hno _ hm (e ▸ hy)
          rw [uN_ne _ _ hyx, g4, if_neg hyx, F14]; exact q5 y hy
        · rw [List.mem_singleton] at hy
          subst hy
          rw [uN_eq]; exact ⟨hx, rfl, by rw [g4, if_pos rfl], hv⟩
    · rw [uN_ne _ _ c]
      refine ⟨by rw [F21, e1, if_neg (fun q => c q.1)]; exact q1, by rw [g2, if_neg c, F12]; exact q2, ?_, q4, fun y hy => ?_⟩
      · exact Ch_cong (fun y hy => g5 y (fun e => hno k hk2 (e ▸ hy))) (e3 k hk2 c)
      · have hyx : y ≠ x := fun e => hno k hk2 (e ▸ hy)
        rw [uN_ne _ _ hyx, g4, if_neg hyx, F14]; exact q5 y hy
  rw [f_X0_put, J_1023]
  dsimp only
  rw [wp_ck_t k0, r6, wp_ck_t k2, n2, J_toInt (by omega) (by omega), wp_ck_t (by omega), J_clamp (by omega) (by omega), Int.toNat_natCast, h2]
  by_cases cl : lst (v % 1024) = []
  · have F1 : Fr [F + 1] M (rhsi M (F + 1) (v % 1024) (J x)) := (Fr.refl _ _).si (by simp) _ _
    have ee : J (lastN (lst (v % 1024)) 65535 : Nat) = 65535 := by rw [cl]; rfl
    rw [wp_ite_t ee, r5, wp_ck_t k1, n1, wp_ck_t (by omega)]
    refine fin _ (F1.sub (by simp)) (fun k => ?_) (fun lk' a b => ?_) (fun k hk2 c => by rw [F1.i (by simp)]; exact (hk k hk2).2.2.1)
    · rw [si_1]
      by_cases c : k = v % 1024
      · rw [if_pos ⟨rfl, c⟩, if_pos ⟨c, cl⟩]
      · rw [if_neg (by omega), if_neg (fun q => c q.1)]
    · rw [cl] at b ⊢
      exact ⟨b, trivial⟩
  · obtain ⟨A, z, hAz⟩ : ∃ A z, lst (v % 1024) = A ++ [z] := by
      rcases List.eq_nil_or_concat (lst (v % 1024)) with h | ⟨A, z, h⟩
      · exact absurd h cl
      · exact ⟨A, z, by rw [h, List.concat_eq_append]⟩
    have hz : z ∈ lst (v % 1024) := by rw [hAz]; simp
    have hzc := h5 z hz
    have hlz : lastN (lst (v % 1024)) 65535 = z := by rw [hAz, lastN_app]
    rw [hAz, Ch_app] at h3
    have hA1 : lastN A 65535 < 65536 := (lastN_lt (fun y hy => hrng _ hm y (by rw [hAz]; simp [hy]))).1
    have hlk : M.1 (F + 5) z = J ((65535 * 65536 + lastN A 65535 : Nat) : Int) := h3.2.1
    have hah := c_ahead hS0 hcp hzc.1 (show 65535 < 65536 by decide) hA1 hlk
    have hzx : z ≠ x := fun e => hno _ hm (e ▸ hz)
    have F1 : Fr [F + 5] M (rhsi M (F + 5) z (J ((x * 65536 + lastN A 65535 : Nat) : Int))) := (Fr.refl _ _).si (by simp) _ _
    have hzA : z ∉ A := fun q => by
      rw [hAz, List.nodup_append] at h4
      exact h4.2.2 z q z (by simp) rfl
    rw [wp_ite_f (by rw [hlz, show (65535 : Int32) = J 65535 from rfl, J_eq (by omega) (by omega) (by omega) (by omega)]; omega), hlz, hah, wp_bind, wp_some, r4, wp_ck_t k5, n5, J_toInt (by omega) (by omega), wp_ck_t (by omega), J_clamp (by omega) (by omega), Int.toNat_natCast, lk_make _ hA1]
    rw [← hlz]
    refine fin _ (by rw [hlz]; exact F1.sub (by simp)) (fun k => by rw [if_neg (fun q => cl q.2), hlz, F1.i (by simp)]) (fun lk' a b => ?_) (fun k hk2 c => ?_)
    · rw [hlz] at a b
      rw [hAz, List.append_assoc, Ch_app, List.singleton_append]
      refine ⟨Ch_cong (fun y hy => ?_) h3.1, ?_, by rw [b]; rfl, trivial⟩
      · have hyz : y ≠ z := fun e => hzA (e ▸ hy)
        rw [a y (fun e => hno _ hm (by rw [hAz, ← e]; simp [hy])), si_1, if_neg (by omega)]
      · rw [a z hzx, si_1, if_pos ⟨rfl, rfl⟩]; rfl
    · rw [hlz]
      refine Ch_cong (fun y hy => ?_) (hk k hk2).2.2.1
      have hyz : y ≠ z := fun e => by
        have y1 := ((hk k hk2).2.2.2.2 y hy).2.1
        rw [e, hzc.2.1] at y1
        exact c y1.symm
      rw [si_1, if_neg (by omega)]
theorem c_wdrop (hS : FSh Γ M F cp) (hcp : cp ≤ 60480) (hW : WL M F cp lst wt n) (hn : n < 70000) {x : Nat} {A B : List Nat} (hl : lst (wt x % 1024) = A ++ x :: B) (Q : rhM → Prop)
    (hQ : ∀ M', Fr [F, F + 1, F + 2, F + 5] M M' → M'.1 F 0 = M.1 F 0 → (∀ m, n = m + 1 → WL M' F cp (uN lst (wt x % 1024) (A ++ B)) wt m) → Q M') : wp (f_X0_drop Γ M F (J x)) Q := by
  have hS0 := hS
  obtain ⟨k0, ⟨k1, n1⟩, ⟨k2, n2⟩, -, ⟨k4, n4⟩, ⟨k5, n5⟩, r5, r6, -, r3, r4⟩ := hS
  have hm := Nat.mod_lt (wt x) (show 0 < 1024 by decide)
  have hrng : ∀ k, k < 1024 → ∀ y, y ∈ lst k → y < 60480 := fun k hk y hy => hW.rng hk hcp hy
  have hrl := hrng _ hm
  rw [hl] at hrl
  obtain ⟨w0, hk⟩ := hW
  obtain ⟨h1, h2, h3, h4, h5⟩ := hk _ hm
  rw [hl] at h1 h2 h3 h4 h5
  obtain ⟨hx, -, hwx, -⟩ := h5 x (by simp)
  rw [Ch_app] at h3
  obtain ⟨cA, hlx, cB⟩ := h3
  obtain ⟨a1, a2⟩ := lastN_lt (A := A) (fun y hy => hrl y (by simp [hy]))
  obtain ⟨b1, b2⟩ := hdE_lt (B := B) (fun y hy => hrl y (by simp [hy]))
  have hah := c_ahead hS0 hcp hx b1 a1 hlx
  have hbe := c_behind0 hS0 hcp hx b1 a1 hlx
  rw [List.nodup_append, List.nodup_cons] at h4
  obtain ⟨ndA, ⟨hxB, ndB⟩, hAB⟩ := h4
  have hother : ∀ k, k < 1024 → k ≠ wt x % 1024 → ∀ y, y ∈ lst k → y ∉ A ++ x :: B := fun k hk2 c y hy h => by
    have y1 := ((hk k hk2).2.2.2.2 y hy).2.1
    have y2 := (h5 y h).2.1
    omega
  -- behind both stores
  have fin : ∀ M1 : rhM, Fr [F + 1, F + 2, F + 5] M M1 → (∀ k, M1.1 (F + 1) k = if A = [] ∧ k = wt x % 1024 then J (hdE B 65535 : Nat) else M.1 (F + 1) k) → (∀ k, M1.1 (F + 2) k = if B = [] ∧ k = wt x % 1024 then J (lastN A 65535 : Nat) else M.1 (F + 2) k) → Ch (M1.1 (F + 5)) 65535 (A ++ B) 65535 → (∀ k, k < 1024 → k ≠ wt x % 1024 → Ch (M1.1 (F + 5)) 65535 (lst k) 65535) →
      wp (f_X0_drop_93 Γ M1 F) Q := by
    intro M1 F1 e1 e2 e3 e4
    rw [f_X0_drop_93, wp_ck_t k0, F1.i (by simp), w0, show (1 : Int32) = J 1 from rfl, J_sub, wp_some]
    have F2 : Fr [F] M1 (rhsi M1 F 1 (J ((n : Int) - 1))) := (Fr.refl _ _).si (by simp) _ _
    have gw : (rhsi M1 F 1 (J ((n : Int) - 1))).1 F 1 = J ((n : Int) - 1) := by rw [si_1, if_pos ⟨rfl, rfl⟩]
    have g0 : (rhsi M1 F 1 (J ((n : Int) - 1))).1 F 0 = M.1 F 0 := by rw [si_1, if_neg (by omega), F1.i (by simp)]
    generalize rhsi M1 F 1 (J ((n : Int) - 1)) = M2 at *
    refine hQ M2 ((F1.sub (by simp)).trans (F2.sub (by simp))) g0 (fun m hm2 => ⟨by rw [gw]; congr 1; omega, fun k hk2 => ?_⟩)
    rw [F2.i (by simp), F2.i (by simp), F2.i (by simp), F2.i (by simp)]
    obtain ⟨q1, q2, q3, q4, q5⟩ := hk k hk2
    have F14 : M1.1 (F + 4) = M.1 (F + 4) := F1.i (by simp)
    rw [F14]
    by_cases c : k = wt x % 1024
    · subst c
      rw [uN_eq]
      refine ⟨?_, ?_, e3, ?_, fun y hy => h5 y (by simp only [List.mem_append, List.mem_cons] at hy ⊢; rcases hy with h | h; exact Or.inl h; exact Or.inr (Or.inr h))⟩
      · rw [e1]
        cases A with
        | nil => rw [if_pos ⟨rfl, rfl⟩]; rfl
        | cons a A => rw [if_neg (by simp), h1]; rfl
      · rw [e2]
        by_cases cB2 : B = []
        · rw [if_pos ⟨cB2, rfl⟩, cB2, List.append_nil]
        · rw [if_neg (fun q => cB2 q.1), h2]
          obtain ⟨B', b, hBb⟩ : ∃ B' b, B = B' ++ [b] := by
            rcases List.eq_nil_or_concat B with h | ⟨B', b, h⟩
            · exact absurd h cB2
            · exact ⟨B', b, by rw [h, List.concat_eq_append]⟩
          rw [hBb, show A ++ x :: (B' ++ [b]) = (A ++ x :: B') ++ [b] by simp, lastN_app, show A ++ (B' ++ [b]) = (A ++ B') ++ [b] by simp, lastN_app]
      · rw [List.nodup_append]
        exact ⟨ndA, ndB, fun a ha b hb => hAB a ha b (List.mem_cons_of_mem _ hb)⟩
    · rw [uN_ne _ _ c]
      refine ⟨by rw [e1, if_neg (fun e => c e.2)]; exact q1, by rw [e2, if_neg (fun e => c e.2)]; exact q2, e4 k hk2 c, q4, q5⟩
  have mid : ∀ M1 : rhM, Fr [F + 1, F + 5] M M1 → (∀ k, M1.1 (F + 1) k = if A = [] ∧ k = wt x % 1024 then J (hdE B 65535 : Nat) else M.1 (F + 1) k) → Ch (M1.1 (F + 5)) 65535 A (hdE B 65535) → (∀ y, y ∉ A → M1.1 (F + 5) y = M.1 (F + 5) y) →
      wp (f_X0_drop_58 Γ M1 F (J (wt x % 1024 : Nat)) (J (lastN A 65535 : Nat)) (J (hdE B 65535 : Nat))) Q := by
    intro M1 F1 e1 e2 e3
    have eo : ∀ k, k < 1024 → k ≠ wt x % 1024 → ∀ y, y ∈ lst k → M1.1 (F + 5) y = M.1 (F + 5) y := fun k hk2 c y hy => e3 y (fun h => hother k hk2 c y hy (List.mem_append_left _ h))
    rw [f_X0_drop_58]
    by_cases cB2 : B = []
    · have ee : J (hdE B 65535 : Nat) = 65535 := by rw [cB2]; rfl
      have F2 : Fr [F + 2] M1 (rhsi M1 (F + 2) (wt x % 1024) (J (lastN A 65535 : Nat))) := (Fr.refl _ _).si (by simp) _ _
      rw [wp_ite_t ee, wp_ck_t k0, F1.1, r6, wp_ck_t k2, n2, J_toInt (by omega) (by omega), wp_ck_t (by omega), J_clamp (by omega) (by omega), Int.toNat_natCast]
      refine fin _ ((F1.sub (by simp)).trans (F2.sub (by simp))) (fun k => by rw [F2.i (by simp)]; exact e1 k) (fun k => ?_) ?_ (fun k hk2 c => by rw [F2.i (by simp)]; exact Ch_cong (eo k hk2 c) (hk k hk2).2.2.1)
      · rw [si_1]
        by_cases c : k = wt x % 1024
        · rw [if_pos ⟨rfl, c⟩, if_pos ⟨cB2, c⟩]
        · rw [if_neg (by omega), if_neg (fun e => c e.2), F1.i (by simp)]
      · rw [F2.i (by simp), cB2, List.append_nil]
        rw [cB2] at e2; exact e2
    · obtain ⟨b, B', hB⟩ : ∃ b B', B = b :: B' := by
        cases hB : B with
        | nil => exact absurd hB cB2
        | cons b B' => exact ⟨b, B', rfl⟩
      have hbm : b ∈ A ++ x :: B := by rw [hB]; simp
      have hbc := h5 b hbm
      have hbA : b ∉ A := fun q => hAB b q b (by rw [hB]; simp) rfl
      have hb2 : hdE B 65535 = b := by rw [hB]; rfl
      rw [hB] at cB
      obtain ⟨hlb, cB3⟩ := cB
      have hB'1 : hdE B' 65535 < 65536 := (hdE_lt (fun y hy => hrl y (by rw [hB]; simp [hy]))).1
      have hxr := hrl x (by simp)
      have hlb1 : M1.1 (F + 5) b = J ((hdE B' 65535 * 65536 + x : Nat) : Int) := by rw [e3 b hbA]; exact hlb
      have hbe2 := c_behind0 (hS0.fr F1.1) hcp hbc.1 hB'1 (show x < 65536 by omega) hlb1
      have hb6 := hrl b hbm
      have F2 : Fr [F + 5] M1 (rhsi M1 (F + 5) b (J ((hdE B' 65535 * 65536 + lastN A 65535 : Nat) : Int))) := (Fr.refl _ _).si (by simp) _ _
      rw [wp_ite_f (by rw [hb2, show (65535 : Int32) = J 65535 from rfl, J_eq (by omega) (by omega) (by omega) (by omega)]; omega), wp_ck_t k0, hb2, hbe2, wp_bind, wp_some, F1.1, r4, wp_ck_t k5, n5, J_toInt (by omega) (by omega), wp_ck_t (by omega), J_clamp (by omega) (by omega), Int.toNat_natCast, lk_make _ a1]
      have g : ∀ y, y ≠ b → (rhsi M1 (F + 5) b (J ((hdE B' 65535 * 65536 + lastN A 65535 : Nat) : Int))).1 (F + 5) y = M1.1 (F + 5) y := fun y hy => by rw [si_1, if_neg (by omega)]
      have gb : (rhsi M1 (F + 5) b (J ((hdE B' 65535 * 65536 + lastN A 65535 : Nat) : Int))).1 (F + 5) b = J ((hdE B' 65535 * 65536 + lastN A 65535 : Nat) : Int) := by rw [si_1, if_pos ⟨rfl, rfl⟩]
      generalize rhsi M1 (F + 5) b (J ((hdE B' 65535 * 65536 + lastN A 65535 : Nat) : Int)) = M2 at *
      refine fin M2 ((F1.sub (by simp)).trans (F2.sub (by simp))) (fun k => by rw [F2.i (by simp)]; exact e1 k) (fun k => by rw [if_neg (fun q => cB2 q.1), F2.i (by simp), F1.i (by simp)]) ?_ (fun k hk2 c => Ch_cong (fun y hy => by rw [g y (fun e => hother k hk2 c y hy (by rw [e]; exact hbm)), eo k hk2 c y hy]) (hk k hk2).2.2.1)
      rw [Ch_app, hB]
      rw [hB, List.nodup_cons] at ndB
      rw [hB] at e2
      refine ⟨Ch_cong (fun y hy => g y (fun e => hbA (e ▸ hy))) e2, gb, Ch_cong (fun y hy => ?_) cB3⟩
      have hyb : y ≠ b := fun e => ndB.1 (e ▸ hy)
      have hyA : y ∉ A := fun q => hAB y q y (by rw [hB]; simp [hy]) rfl
      rw [g y hyb, e3 y hyA]
  rw [f_X0_drop, wp_ck_t k0, r3, wp_ck_t k4, n4, J_toInt (by omega) (by omega), wp_ck_t (by omega), J_clamp (by omega) (by omega), Int.toNat_natCast, hwx, J_1023]
  dsimp only
  rw [hah, wp_bind, wp_some, hbe, wp_bind, wp_some]
  by_cases cA2 : A = []
  · have ee : J (lastN A 65535 : Nat) = 65535 := by rw [cA2]; rfl
    have F1 : Fr [F + 1] M (rhsi M (F + 1) (wt x % 1024) (J (hdE B 65535 : Nat))) := (Fr.refl _ _).si (by simp) _ _
    rw [wp_ite_t ee, r5, wp_ck_t k1, n1, J_toInt (by omega) (by omega), wp_ck_t (by omega), J_clamp (by omega) (by omega), Int.toNat_natCast]
    refine mid _ (F1.sub (by simp)) (fun k => ?_) (by rw [cA2]; trivial) (fun y _ => by rw [F1.i (by simp)])
    rw [si_1]
    by_cases c : k = wt x % 1024
    · rw [if_pos ⟨rfl, c⟩, if_pos ⟨cA2, c⟩]
    · rw [if_neg (by omega), if_neg (fun e => c e.2)]
  · obtain ⟨A', z, hAz⟩ : ∃ A' z, A = A' ++ [z] := by
      rcases List.eq_nil_or_concat A with h | ⟨A', z, h⟩
      · exact absurd h cA2
      · exact ⟨A', z, by rw [h, List.concat_eq_append]⟩
    have hz : z ∈ A ++ x :: B := by rw [hAz]; simp
    have hzc := h5 z hz
    have hz6 := hrl z hz
    have hlz : lastN A 65535 = z := by rw [hAz, lastN_app]
    have hA'1 : lastN A' 65535 < 65536 := (lastN_lt (fun y hy => hrl y (by rw [hAz]; simp [hy]))).1
    rw [hAz, Ch_app] at cA
    have hlk : M.1 (F + 5) z = J ((x * 65536 + lastN A' 65535 : Nat) : Int) := cA.2.1
    have hxr := hrl x (by simp)
    have hah2 := c_ahead hS0 hcp hzc.1 (show x < 65536 by omega) hA'1 hlk
    have hzA : z ∉ A' := fun q => by
      rw [hAz, List.nodup_append] at ndA
      exact ndA.2.2 z q z (by simp) rfl
    have F1 : Fr [F + 5] M (rhsi M (F + 5) z (J ((hdE B 65535 * 65536 + lastN A' 65535 : Nat) : Int))) := (Fr.refl _ _).si (by simp) _ _
    rw [wp_ite_f (by rw [hlz, show (65535 : Int32) = J 65535 from rfl, J_eq (by omega) (by omega) (by omega) (by omega)]; omega), hlz, hah2, wp_bind, wp_some, r4, wp_ck_t k5, n5, J_toInt (by omega) (by omega), wp_ck_t (by omega), J_clamp (by omega) (by omega), Int.toNat_natCast, lk_make _ hA'1]
    have g : ∀ y, y ≠ z → (rhsi M (F + 5) z (J ((hdE B 65535 * 65536 + lastN A' 65535 : Nat) : Int))).1 (F + 5) y = M.1 (F + 5) y := fun y hy => by rw [si_1, if_neg (by omega)]
    have gz : (rhsi M (F + 5) z (J ((hdE B 65535 * 65536 + lastN A' 65535 : Nat) : Int))).1 (F + 5) z = J ((hdE B 65535 * 65536 + lastN A' 65535 : Nat) : Int) := by rw [si_1, if_pos ⟨rfl, rfl⟩]
    generalize rhsi M (F + 5) z (J ((hdE B 65535 * 65536 + lastN A' 65535 : Nat) : Int)) = M1 at *
    have := mid M1 (F1.sub (by simp)) (fun k => by rw [if_neg (fun e => cA2 e.1), F1.i (by simp)]) (by
      rw [hAz, Ch_app]
      exact ⟨Ch_cong (fun y hy => g y (fun e => hzA (e ▸ hy))) cA.1, gz, trivial⟩) (fun y hy => g y (fun e => hy (by rw [e, hAz]; simp)))
    rw [hlz] at this
    exact this
/-! leads -/
theorem c_pullsTo (hS : FSh Γ M F cp) (hcp : cp ≤ 60480) {x p par cd : Nat} (hx : x < cp) (hp : p ≤ 60480) (hr : par < 65536) (hc : cd < 512) (hl : M.2.1 (F + 3) x = jl (ld p par cd)) : f_X0_pullsTo Γ M F (J x) = some (J p) := by
  obtain ⟨k0, -, -, ⟨k3, n3⟩, -, -, -, -, r2, -⟩ := hS
  rw [f_X0_pullsTo, rhck_t k0, r2, rhck_t k3, n3, J_toInt (by omega) (by omega), rhck_t (by omega), J_clamp (by omega) (by omega), Int.toNat_natCast, hl, ld_pulls hp hr hc]
theorem c_parentOf (hS : FSh Γ M F cp) (hcp : cp ≤ 60480) {x p par cd : Nat} (hx : x < cp) (hp : p ≤ 60480) (hr : par < 65536) (hc : cd < 512) (hl : M.2.1 (F + 3) x = jl (ld p par cd)) : f_X0_parentOf Γ M F (J x) = some (J par) := by
  obtain ⟨k0, -, -, ⟨k3, n3⟩, -, -, -, -, r2, -⟩ := hS
  rw [f_X0_parentOf, rhck_t k0, r2, rhck_t k3, n3, J_toInt (by omega) (by omega), rhck_t (by omega), J_clamp (by omega) (by omega), Int.toNat_natCast, hl, ld_parent hp hr hc]
theorem c_codeOf (hS : FSh Γ M F cp) (hcp : cp ≤ 60480) {x p par cd : Nat} (hx : x < cp) (hp : p ≤ 60480) (hr : par < 65536) (hc : cd < 512) (hl : M.2.1 (F + 3) x = jl (ld p par cd)) : f_X0_codeOf Γ M F (J x) = some (J cd) := by
  obtain ⟨k0, -, -, ⟨k3, n3⟩, -, -, -, -, r2, -⟩ := hS
  rw [f_X0_codeOf, rhck_t k0, r2, rhck_t k3, n3, J_toInt (by omega) (by omega), rhck_t (by omega), J_clamp (by omega) (by omega), Int.toNat_natCast, hl, ld_code hp hr hc]
theorem c_isNew (hS : FSh Γ M F cp) (hcp : cp ≤ 60480) (h0 : M.1 F 0 = J cp) {x : Nat} (hx : x < cp) : f_X0_isNew Γ M F (J x) = some (if M.2.1 (F + 3) x = -1 then 1 else 0) := by
  obtain ⟨k0, -, -, ⟨k3, n3⟩, -, -, -, -, r2, -⟩ := hS
  rw [f_X0_isNew, if_neg (by rw [show (0 : Int32) = J 0 from rfl, J_lt (by omega) (by omega) (by omega) (by omega)]; omega), rhck_t k0, h0, if_pos (by rw [J_lt (by omega) (by omega) (by omega) (by omega)]; omega), r2, rhck_t k3, n3, J_toInt (by omega) (by omega), rhck_t (by omega), J_clamp (by omega) (by omega), Int.toNat_natCast]
  split <;> rfl
theorem c_lead (hS : FSh Γ M F cp) (hcp : cp ≤ 60480) {x par p cd : Nat} (hx : x < cp) (hpr : par < cp) (hc : cd < 512) (hp : p ≤ 60480) (hd : (x = par ∧ p = 0) ∨ (x ≠ par ∧ ∃ q, p = q + 1 ∧ f_X0_pullsTo Γ M F (J par) = some (J q))) :
    wp (f_X0_lead Γ M F (J x) (J par) (J cd)) (fun M' => Fr [F + 3] M M' ∧ M'.1 = M.1 ∧ ∀ j, M'.2.1 (F + 3) j = if j = x then jl (ld p par cd) else M.2.1 (F + 3) j) := by
  obtain ⟨k0, -, -, ⟨k3, n3⟩, -, -, -, -, r2, -⟩ := hS
  have fin : wp (f_X0_lead_17 Γ M F (J x) (J par) (J cd) (jl p)) (fun M' => Fr [F + 3] M M' ∧ M'.1 = M.1 ∧ ∀ j, M'.2.1 (F + 3) j = if j = x then jl (ld p par cd) else M.2.1 (F + 3) j) := by
    rw [f_X0_lead_17, wp_ck_t k0, r2, wp_ck_t k3, n3, J_toInt (by omega) (by omega), wp_ck_t (by omega), J_clamp (by omega) (by omega), Int.toNat_natCast, ld_make hp (by omega) hc, wp_some]
    refine ⟨(Fr.refl _ _).sl (by simp) _ _, rfl, fun j => ?_⟩
    rw [sl_2]
    by_cases c : j = x
    · rw [if_pos ⟨rfl, c⟩, if_pos c]
    · rw [if_neg (by omega), if_neg c]
  rw [f_X0_lead]
  rcases hd with ⟨rfl, rfl⟩ | ⟨h1, q, rfl, h2⟩
  · rw [wp_ite_t rfl]; exact fin
  · rw [wp_ite_f (by rw [J_eq (by omega) (by omega) (by omega) (by omega)]; omega), wp_ck_t k0, h2, wp_bind, wp_some, show (1 : Int32) = J 1 from rfl, J_add, J_suc, J_to64 (by omega)]; exact fin
end
