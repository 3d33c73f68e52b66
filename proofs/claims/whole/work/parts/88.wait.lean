/-! LISTS OF STATES THAT WAIT -/
def hdI : List Nat → Int
  | [] => -1
  | x :: _ => x
def lastI : List Nat → Int → Int
  | [], p => p
  | x :: l, _ => lastI l x
def Ch (nx bf : Nat → Int32) : Int → List Nat → Prop
  | _, [] => True
  | p, x :: l => bf x = J p ∧ nx x = J (hdI l) ∧ Ch nx bf x l
theorem Ch_cong {nx bf nx' bf' : Nat → Int32} : ∀ {p : Int} {l : List Nat}, (∀ y, y ∈ l → nx' y = nx y ∧ bf' y = bf y) → Ch nx bf p l → Ch nx' bf' p l
  | _, [], _, _ => trivial
  | p, x :: l, h, hc => by
    have hx := h x List.mem_cons_self
    exact ⟨hx.2.trans hc.1, hx.1.trans hc.2.1, Ch_cong (fun y hy => h y (List.mem_cons_of_mem _ hy)) hc.2.2⟩
theorem hdI_app (A B : List Nat) (x : Nat) : hdI (x :: A ++ B) = hdI (x :: A) := rfl
theorem Ch_mid {nx bf : Nat → Int32} : ∀ {A : List Nat} {p : Int} {x : Nat} {B : List Nat}, Ch nx bf p (A ++ x :: B) → bf x = J (lastI A p) ∧ nx x = J (hdI B)
  | [], _, _, _, h => ⟨h.1, h.2.1⟩
  | a :: A, p, x, B, h => by
    have := Ch_mid (A := A) h.2.2
    exact this
theorem lastI_mem : ∀ {A : List Nat} {p : Int}, A ≠ [] → ∃ y, y ∈ A ∧ lastI A p = (y : Int)
  | [], _, h => absurd rfl h
  | [a], p, _ => ⟨a, List.mem_cons_self, rfl⟩
  | a :: b :: A, p, _ => by
    obtain ⟨y, hy, e⟩ := lastI_mem (A := b :: A) (p := (a : Int)) (by simp)
    exact ⟨y, List.mem_cons_of_mem _ hy, e⟩
theorem Ch_drop {nx bf nx' bf' : Nat → Int32} {x : Nat} {B : List Nat} : ∀ {A : List Nat} {p : Int}, (A ++ x :: B).Nodup → Ch nx bf p (A ++ x :: B) → (∀ y, y ∈ A ++ B → nx' y = if (y : Int) = lastI A (-1) then J (hdI B) else nx y) → (∀ y, y ∈ A ++ B → bf' y = if (y : Int) = hdI B then J (lastI A p) else bf y) → (p = -1 ∨ A ≠ []) → Ch nx' bf' p (A ++ B)
  | [], p, nd, h, hn, hb, hp => by
    cases B with
    | nil => trivial
    | cons b B =>
      rw [List.nil_append] at *
      obtain ⟨-, -, h1, h2, h3⟩ := h
      rw [List.nodup_cons, List.nodup_cons] at nd
      refine ⟨?_, ?_, ?_⟩
      · rw [hb b List.mem_cons_self, if_pos (show (b : Int) = hdI (b :: B) from rfl)]; rfl
      · rw [hn b List.mem_cons_self, if_neg (by show ¬ ((b : Int) = -1); omega)]; exact h2
      · refine Ch_cong (fun y hy => ?_) h3
        have hyb : y ≠ b := fun e => nd.2.1 (e ▸ hy)
        rw [hn y (List.mem_cons_of_mem _ hy), hb y (List.mem_cons_of_mem _ hy), if_neg (by show ¬ ((y : Int) = -1); omega), if_neg (by show ¬ ((y : Int) = (b : Int)); omega)]
        exact ⟨rfl, rfl⟩
  | a :: A, p, nd, h, hn, hb, hp => by
    rw [List.cons_append] at *
    obtain ⟨h1, h2, h3⟩ := h
    have nd2 := nd
    rw [List.nodup_cons] at nd2
    have haB : ¬ ((a : Int) = hdI B) := by
      cases B with
      | nil => show ¬ ((a : Int) = -1); omega
      | cons b B =>
        show ¬ ((a : Int) = (b : Int))
        intro e
        have : a = b := by omega
        exact nd2.1 (by rw [this]; simp)
    have hmem : ∀ y, y ∈ A ++ B → y ≠ a := fun y hy e => nd2.1 (by
      rw [← e]; simp only [List.mem_append, List.mem_cons] at hy ⊢; rcases hy with h | h
      · exact Or.inl h
      · exact Or.inr (Or.inr h))
    refine ⟨?_, ?_, ?_⟩
    · rw [hb a List.mem_cons_self, if_neg haB]; exact h1
    · rw [hn a List.mem_cons_self]
      cases A with
      | nil => rw [if_pos (show (a : Int) = lastI [a] (-1) from rfl)]; rfl
      | cons c A =>
        obtain ⟨y, hy, e⟩ := lastI_mem (A := c :: A) (p := (a : Int)) (by simp)
        have : lastI (a :: c :: A) (-1) = (y : Int) := e
        rw [this, if_neg (by have := hmem y (List.mem_append_left _ hy); omega)]; exact h2
    · cases A with
      | nil =>
        -- the list behind a is x :: B
        rw [List.nil_append] at *
        cases B with
        | nil => trivial
        | cons b B =>
          obtain ⟨-, -, g1, g2, g3⟩ := h3
          rw [List.nodup_cons, List.nodup_cons] at nd2
          have nb := nd2.2.2
          refine ⟨?_, ?_, ?_⟩
          · rw [hb b (by simp), if_pos (show (b : Int) = hdI (b :: B) from rfl)]; rfl
          · rw [hn b (by simp), if_neg (by show ¬ ((b : Int) = (a : Int)); have := hmem b (by simp); omega)]; exact g2
          · refine Ch_cong (fun y hy => ?_) g3
            have hyb : y ≠ b := fun e => nb.1 (e ▸ hy)
            have hya := hmem y (by simp [hy])
            rw [hn y (by simp [hy]), hb y (by simp [hy]), if_neg (by show ¬ ((y : Int) = (a : Int)); omega), if_neg (by show ¬ ((y : Int) = (b : Int)); omega)]
            exact ⟨rfl, rfl⟩
      | cons c A =>
        exact Ch_drop (A := c :: A) (p := (a : Int)) nd2.2 h3 (fun y hy => hn y (List.mem_cons_of_mem _ hy)) (fun y hy => hb y (List.mem_cons_of_mem _ hy)) (Or.inr (by simp))
def WL (M : rhM) (w cp : Nat) (lst : Nat → List Nat) (wt : Nat → Nat) (n : Nat) : Prop := M.1 w 0 = J n ∧ (∀ k, k < 1024 → M.1 (w + 1) k = J (hdI (lst k)) ∧ Ch (M.1 (w + 3)) (M.1 (w + 4)) (-1) (lst k) ∧ (lst k).Nodup ∧ ∀ x, x ∈ lst k → x < cp ∧ wt x % 1024 = k ∧ M.1 (w + 2) x = J (wt x) ∧ wt x < 2147483648)
theorem J_1023 (a : Nat) : J a &&& 1023 = J ((a % 1024 : Nat) : Int) := by
  rw [show (1023 : Int32) = J ((1023 : Nat) : Int) from rfl, J_and, show (1023 : Nat) = 2 ^ 10 - 1 by decide, Nat.and_two_pow_sub_one_eq_mod]
section
variable {Γ : rhG} {M : rhM} {w cp n : Nat} {lst : Nat → List Nat} {wt : Nat → Nat}
theorem c_head (hS : WSh Γ M w cp) (hW : WL M w cp lst wt n) {v : Nat} : f_X10_headOf Γ M w (J v) = some (J (hdI (lst (v % 1024)))) := by
  obtain ⟨k0, ⟨k1, n1⟩, -, -, -, r4, -, -, -⟩ := hS
  have hm := Nat.mod_lt v (show 0 < 1024 by decide)
  rw [f_X10_headOf, rhck_t k0, r4, rhck_t k1, n1, J_1023, J_toInt (by omega) (by omega), rhck_t (by omega), J_clamp (by omega) (by omega), Int.toNat_natCast, (hW.2 _ hm).1]
theorem c_wbegin (hS : WSh Γ M w cp) (Q : rhM → Prop) (hQ : ∀ M', Fr [w, w + 1] M M' → WL M' w cp (fun _ => []) wt 0 → Q M') : wp (f_X10_begin Γ M w) Q := by
  obtain ⟨k0, ⟨k1, n1⟩, -, -, -, r4, -, -, -⟩ := hS
  rw [f_X10_begin, wp_ck_t k0]
  dsimp only
  rw [r4, wp_bind]
  have hF : Fr [w] M (rhsi M w 0 0) := (Fr.refl _ _).si (by simp) _ _
  have key : wp (f_J7_fill_53178 Γ (rhsi M w 0 0) (w + 1) ((-1) : Int32)) (fun M' => Fr [w + 1] (rhsi M w 0 0) M' ∧ ∀ i, M'.1 (w + 1) i = if i < 1024 then (-1 : Int32) else (rhsi M w 0 0).1 (w + 1) i) := by
    rw [f_J7_fill_53178, wp_ck_t k1]
    dsimp only
    rw [n1, show Int32.ofNat 1024 = J ((1024 : Nat) : Int) from rfl, show (0 : Int32) = J ((0 : Nat) : Int) from rfl]
    have lp : ∀ (d n : Nat) (M1 : rhM) (k : Nat), k + d = 1024 → d < n → wp (f_J7_fill_53178_5 Γ n M1 (w + 1) (-1) (J k) (J ((1024 : Nat) : Int))) (fun M' => Fr [w + 1] M1 M' ∧ ∀ i, M'.1 (w + 1) i = if k ≤ i ∧ i < 1024 then (-1 : Int32) else M1.1 (w + 1) i) := by
      intro d
      induction d with
      | zero =>
        intro n M1 k hk hn
        obtain ⟨n, rfl⟩ : ∃ k, n = k + 1 := ⟨n - 1, by omega⟩
        rw [f_J7_fill_53178_5, wp_ite_f (by rw [J_lt (by omega) (by omega) (by omega) (by omega)]; omega), wp_some]
        exact ⟨Fr.refl _ _, fun i => by rw [if_neg (by omega)]⟩
      | succ d ih =>
        intro n M1 k hk hn
        obtain ⟨n, rfl⟩ : ∃ k, n = k + 1 := ⟨n - 1, by omega⟩
        rw [f_J7_fill_53178_5, wp_ite_t (by rw [J_lt (by omega) (by omega) (by omega) (by omega)]; omega), wp_ck_t k1, n1, J_toInt (by omega) (by omega), wp_ck_t (by omega), J_clamp (by omega) (by omega), Int.toNat_natCast]
        dsimp only
        rw [show (1 : Int32) = J 1 from rfl, J_add, J_suc, show (-(J 1) : Int32) = -1 from rfl]
        have hF1 : Fr [w + 1] M1 (rhsi M1 (w + 1) k (-1)) := (Fr.refl _ _).si (by simp) _ _
        refine (ih n _ (k + 1) (by omega) (by omega)).mono (fun M' h => ⟨hF1.trans h.1, fun i => ?_⟩)
        rw [h.2, si_1]
        by_cases c : i = k
        · rw [if_neg (by omega), if_pos ⟨rfl, c⟩, if_pos (by omega)]
        · by_cases c2 : k + 1 ≤ i ∧ i < 1024
          · rw [if_pos c2, if_pos (by omega)]
          · rw [if_neg c2, if_neg (by omega), if_neg (by omega)]
    refine (lp 1024 rhFU _ 0 (by omega) (by have := FU_big; omega)).mono (fun M' h => ⟨h.1, fun i => ?_⟩)
    rw [h.2]
    by_cases c : i < 1024
    · rw [if_pos (by omega), if_pos c]
    · rw [if_neg (by omega), if_neg c]
  refine key.mono (fun M' h => ?_)
  rw [wp_some]
  refine hQ M' ((hF.sub (by simp)).trans (h.1.sub (by simp))) ⟨?_, fun k hk => ⟨?_, trivial, List.nodup_nil, fun x hx => by cases hx⟩⟩
  · rw [h.1.i (by simp), si_1, if_pos ⟨rfl, rfl⟩]; rfl
  · rw [h.2, if_pos hk]; rfl
def uN {α : Type} (f : Nat → α) (k : Nat) (v : α) : Nat → α := fun j => if j = k then v else f j
theorem uN_eq {α : Type} (f : Nat → α) (k : Nat) (v : α) : uN f k v k = v := if_pos rfl
theorem uN_ne {α : Type} (f : Nat → α) {k j : Nat} (v : α) (h : j ≠ k) : uN f k v j = f j := if_neg h
theorem hdI_rng {l : List Nat} {cp : Nat} (h : ∀ x, x ∈ l → x < cp) : -1 ≤ hdI l ∧ hdI l < (cp : Int) ∨ (l = [] ∧ hdI l = -1) := by
  cases l with
  | nil => exact Or.inr ⟨rfl, rfl⟩
  | cons x l => left; have := h x List.mem_cons_self; show -1 ≤ (x : Int) ∧ (x : Int) < cp; omega
theorem c_wput (hS : WSh Γ M w cp) (hcp : cp ≤ 60480) (hW : WL M w cp lst wt n) (hn : n < 60480) {x v : Nat} (hx : x < cp) (hv : v < 2147483648) (hno : ∀ k, k < 1024 → x ∉ lst k) (Q : rhM → Prop)
    (hQ : ∀ M', Fr [w, w + 1, w + 2, w + 3, w + 4] M M' → WL M' w cp (uN lst (v % 1024) (x :: lst (v % 1024))) (uN wt x v) (n + 1) → (∀ j, j ≠ x → M'.1 (w + 2) j = M.1 (w + 2) j) → M'.1 (w + 2) x = J v → Q M') : wp (f_X10_put Γ M w (J x) (J v)) Q := by
  obtain ⟨k0, ⟨k1, n1⟩, ⟨k2, n2⟩, ⟨k3, n3⟩, ⟨k4, n4⟩, r4, r1, r2, r3⟩ := hS
  have hm := Nat.mod_lt v (show 0 < 1024 by decide)
  obtain ⟨w0, hk⟩ := hW
  obtain ⟨h1, h2, h3, h4⟩ := hk _ hm
  have hkm := hk
  -- the last step
  have fin : ∀ M1 : rhM, Fr [w + 2, w + 3, w + 4] M M1 → (∀ j, M1.1 (w + 2) j = if j = x then J v else M.1 (w + 2) j) → (∀ j, M1.1 (w + 3) j = if j = x then J (hdI (lst (v % 1024))) else M.1 (w + 3) j) → (∀ j, M1.1 (w + 4) j = if (j : Int) = hdI (lst (v % 1024)) then J x else if j = x then J (-1) else M.1 (w + 4) j) →
      wp (f_X10_put_54 Γ M1 w (J x) (J (v % 1024 : Nat))) Q := by
    intro M1 F1 e2 e3 e4
    rw [f_X10_put_54, wp_ck_t k0, F1.1, r4, wp_ck_t k1, n1, J_toInt (by omega) (by omega), wp_ck_t (by omega), J_clamp (by omega) (by omega), Int.toNat_natCast]
    dsimp only
    have ew : (rhsi M1 (w + 1) (v % 1024) (J x)).1 w 0 = J n := by rw [si_1, if_neg (by omega), F1.i (by simp)]; exact w0
    rw [ew, show (1 : Int32) = J 1 from rfl, J_add, J_suc, wp_some]
    have F2 : Fr [w, w + 1] M1 (rhsi (rhsi M1 (w + 1) (v % 1024) (J x)) w 0 (J ((n + 1 : Nat) : Int))) := ((Fr.refl _ _).si (by simp) _ _).si (by simp) _ _
    have g1 : ∀ k, (rhsi (rhsi M1 (w + 1) (v % 1024) (J x)) w 0 (J ((n + 1 : Nat) : Int))).1 (w + 1) k = if k = v % 1024 then J x else M.1 (w + 1) k := fun k => by
      rw [si_1, if_neg (by omega), si_1]
      by_cases c : k = v % 1024
      · rw [if_pos ⟨rfl, c⟩, if_pos c]
      · rw [if_neg (by omega), if_neg c, F1.i (by simp)]
    have gw : (rhsi (rhsi M1 (w + 1) (v % 1024) (J x)) w 0 (J ((n + 1 : Nat) : Int))).1 w 0 = J ((n + 1 : Nat) : Int) := by rw [si_1, if_pos ⟨rfl, rfl⟩]
    generalize rhsi (rhsi M1 (w + 1) (v % 1024) (J x)) w 0 (J ((n + 1 : Nat) : Int)) = M2 at *
    have f2 : ∀ j, M2.1 (w + 2) j = if j = x then J v else M.1 (w + 2) j := fun j => by rw [F2.i (by simp), e2]
    have f3 : ∀ j, M2.1 (w + 3) j = if j = x then J (hdI (lst (v % 1024))) else M.1 (w + 3) j := fun j => by rw [F2.i (by simp), e3]
    have f4 : ∀ j, M2.1 (w + 4) j = if (j : Int) = hdI (lst (v % 1024)) then J x else if j = x then J (-1) else M.1 (w + 4) j := fun j => by rw [F2.i (by simp), e4]
    have hdm : ∀ y : Nat, (y : Int) = hdI (lst (v % 1024)) → y ∈ lst (v % 1024) := fun y hy => by
      cases hl : lst (v % 1024) with
      | nil => rw [hl] at hy; simp only [hdI] at hy; omega
      | cons z l => rw [hl] at hy; simp only [hdI] at hy; rw [show y = z by omega]; exact List.mem_cons_self
    refine hQ M2 ((F1.sub (by simp)).trans (F2.sub (by simp))) ⟨gw, fun k hk2 => ?_⟩ (fun j hj => by rw [f2, if_neg hj]) (by rw [f2, if_pos rfl])
    obtain ⟨q1, q2, q3, q4⟩ := hkm k hk2
    by_cases c : k = v % 1024
    · subst c
      rw [uN_eq]
      refine ⟨by rw [g1, if_pos rfl]; rfl, ⟨?_, ?_, ?_⟩, List.nodup_cons.mpr ⟨hno _ hm, q3⟩, fun y hy => ?_⟩
      · rw [f4, if_neg (fun e => hno _ hm (hdm x e)), if_pos rfl]
      · rw [f3, if_pos rfl]
      · cases hl : lst (v % 1024) with
        | nil => trivial
        | cons z l =>
          rw [hl] at q2 q3 f4
          have hxz : z ≠ x := fun e => hno _ hm (by rw [hl, ← e]; exact List.mem_cons_self)
          rw [List.nodup_cons] at q3
          obtain ⟨-, q22, q23⟩ := q2
          refine ⟨by rw [f4, if_pos (show (z : Int) = hdI (z :: l) from rfl)], by rw [f3, if_neg hxz]; exact q22, ?_⟩
          refine Ch_cong (fun y hy => ?_) q23
          have hyx : y ≠ x := fun e => hno _ hm (by rw [hl, ← e]; exact List.mem_cons_of_mem _ hy)
          have hyz : ¬ ((y : Int) = hdI (z :: l)) := fun e => by
            have : y = z := by simp only [hdI] at e; omega
            exact q3.1 (this ▸ hy)
          exact ⟨by rw [f3, if_neg hyx], by rw [f4, if_neg hyz, if_neg hyx]⟩
      · rcases List.mem_cons.mp hy with rfl | hy
        · rw [uN_eq]; exact ⟨hx, rfl, by rw [f2, if_pos rfl], hv⟩
        · have hyx : y ≠ x := fun e => hno _ hm (e ▸ hy)
          rw [uN_ne _ _ hyx, f2, if_neg hyx]; exact q4 y hy
    · rw [uN_ne _ _ c]
      refine ⟨by rw [g1, if_neg c]; exact q1, ?_, q3, fun y hy => ?_⟩
      · refine Ch_cong (fun y hy => ?_) q2
        have hyx : y ≠ x := fun e => hno k hk2 (e ▸ hy)
        have hyh : ¬ ((y : Int) = hdI (lst (v % 1024))) := fun e => by
          have y1 := (h4 y (hdm y e)).2.1
          have y2 := (q4 y hy).2.1
          omega
        exact ⟨by rw [f3, if_neg hyx], by rw [f4, if_neg hyh, if_neg hyx]⟩
      · have hyx : y ≠ x := fun e => hno k hk2 (e ▸ hy)
        rw [uN_ne _ _ hyx, f2, if_neg hyx]; exact q4 y hy
  rw [f_X10_put, J_1023]
  dsimp only
  rw [wp_ck_t k0, r1, wp_ck_t k2, n2, J_toInt (by omega) (by omega), wp_ck_t (by omega), r3, wp_ck_t k4, n4, wp_ck_t (by omega), r4, wp_ck_t k1, n1, J_toInt (by omega) (by omega), wp_ck_t (by omega), r2, wp_ck_t k3, n3, wp_ck_t (by omega), J_clamp (by omega) (by omega), J_clamp (by omega) (by omega), Int.toNat_natCast, Int.toNat_natCast]
  have eh : (rhsi (rhsi M (w + 2) x (J v)) (w + 4) x (-1)).1 (w + 1) (v % 1024) = J (hdI (lst (v % 1024))) := by rw [si_1, if_neg (by omega), si_1, if_neg (by omega)]; exact h1
  rw [eh]
  have eh2 : (rhsi (rhsi (rhsi M (w + 2) x (J v)) (w + 4) x (-1)) (w + 3) x (J (hdI (lst (v % 1024))))).1 (w + 1) (v % 1024) = J (hdI (lst (v % 1024))) := by rw [si_1, if_neg (by omega)]; exact eh
  rw [eh2]
  have F3 : Fr [w + 2, w + 3, w + 4] M (rhsi (rhsi (rhsi M (w + 2) x (J v)) (w + 4) x (-1)) (w + 3) x (J (hdI (lst (v % 1024))))) := (((Fr.refl _ _).si (by simp) _ _).si (by simp) _ _).si (by simp) _ _
  have d2 : ∀ j, (rhsi (rhsi (rhsi M (w + 2) x (J v)) (w + 4) x (-1)) (w + 3) x (J (hdI (lst (v % 1024))))).1 (w + 2) j = if j = x then J v else M.1 (w + 2) j := fun j => by
    rw [si_1, if_neg (by omega), si_1, if_neg (by omega), si_1]
    by_cases c : j = x
    · rw [if_pos ⟨rfl, c⟩, if_pos c]
    · rw [if_neg (by omega), if_neg c]
  have d3 : ∀ j, (rhsi (rhsi (rhsi M (w + 2) x (J v)) (w + 4) x (-1)) (w + 3) x (J (hdI (lst (v % 1024))))).1 (w + 3) j = if j = x then J (hdI (lst (v % 1024))) else M.1 (w + 3) j := fun j => by
    rw [si_1]
    by_cases c : j = x
    · rw [if_pos ⟨rfl, c⟩, if_pos c]
    · rw [if_neg (by omega), if_neg c, si_1, if_neg (by omega), si_1, if_neg (by omega)]
  have d4 : ∀ j, (rhsi (rhsi (rhsi M (w + 2) x (J v)) (w + 4) x (-1)) (w + 3) x (J (hdI (lst (v % 1024))))).1 (w + 4) j = if j = x then J (-1) else M.1 (w + 4) j := fun j => by
    rw [si_1, if_neg (by omega), si_1]
    by_cases c : j = x
    · rw [if_pos ⟨rfl, c⟩, if_pos c]; rfl
    · rw [if_neg (by omega), if_neg c, si_1, if_neg (by omega)]
  generalize rhsi (rhsi (rhsi M (w + 2) x (J v)) (w + 4) x (-1)) (w + 3) x (J (hdI (lst (v % 1024)))) = M3 at *
  cases hl : lst (v % 1024) with
  | nil =>
    rw [hl] at fin d3
    rw [wp_ite_t (by rfl)]
    exact fin M3 F3 d2 d3 (fun j => by rw [if_neg (show ¬ ((j : Int) = hdI []) by show ¬ ((j : Int) = -1); omega)]; exact d4 j)
  | cons z l =>
    rw [hl] at fin d3
    have hz := (h4 z (by rw [hl]; exact List.mem_cons_self)).1
    have hdz : hdI (z :: l) = (z : Int) := rfl
    rw [hdz] at fin d3 ⊢
    have F4 : Fr [w + 4] M3 (rhsi M3 (w + 4) z (J x)) := (Fr.refl _ _).si (by simp) _ _
    rw [wp_ite_f (by rw [show (-1 : Int32) = J (-1) from rfl, J_eq (by omega) (by omega) (by omega) (by omega)]; omega), J_toInt (by omega) (by omega), wp_ck_t (by omega), J_clamp (by omega) (by omega), Int.toNat_natCast]
    refine fin _ (F3.trans (F4.sub (by simp))) (fun j => by rw [F4.i (by simp)]; exact d2 j) (fun j => by rw [F4.i (by simp)]; exact d3 j) (fun j => ?_)
    rw [si_1]
    by_cases c : j = z
    · rw [if_pos ⟨rfl, c⟩, if_pos (by omega)]
    · rw [if_neg (by omega), if_neg (by omega)]; exact d4 j
theorem lastI_p {A : List Nat} {p q : Int} (h : A ≠ []) : lastI A p = lastI A q := by
  cases A with
  | nil => exact absurd rfl h
  | cons a A => rfl
theorem c_wdrop (hS : WSh Γ M w cp) (hcp : cp ≤ 60480) (hW : WL M w cp lst wt n) (hn : n < 70000) {x : Nat} {A B : List Nat} (hl : lst (wt x % 1024) = A ++ x :: B) (Q : rhM → Prop)
    (hQ : ∀ M', Fr [w, w + 1, w + 3, w + 4] M M' → (∀ m, n = m + 1 → WL M' w cp (uN lst (wt x % 1024) (A ++ B)) wt m) → Q M') : wp (f_X10_drop Γ M w (J x)) Q := by
  obtain ⟨k0, ⟨k1, n1⟩, ⟨k2, n2⟩, ⟨k3, n3⟩, ⟨k4, n4⟩, r4, r1, r2, r3⟩ := hS
  have hm := Nat.mod_lt (wt x) (show 0 < 1024 by decide)
  obtain ⟨w0, hk⟩ := hW
  obtain ⟨h1, h2, h3, h4⟩ := hk _ hm
  rw [hl] at h1 h2 h3 h4
  obtain ⟨hx, -, hwx, -⟩ := h4 x (by simp)
  obtain ⟨m1, m2⟩ := Ch_mid h2
  have nd := h3
  have hdx : ∀ y : Nat, (y : Int) = hdI B → y ∈ B := fun y hy => by
    cases B with
    | nil => simp only [hdI] at hy; omega
    | cons z l => simp only [hdI] at hy; rw [show y = z by omega]; exact List.mem_cons_self
  -- behind both stores
  have fin : ∀ M1 : rhM, Fr [w + 1, w + 3, w + 4] M M1 → (∀ k, M1.1 (w + 1) k = if A = [] ∧ k = wt x % 1024 then J (hdI B) else M.1 (w + 1) k) → (∀ j : Nat, M1.1 (w + 3) j = if (j : Int) = lastI A (-1) then J (hdI B) else M.1 (w + 3) j) → (∀ j : Nat, M1.1 (w + 4) j = if (j : Int) = hdI B then J (lastI A (-1)) else M.1 (w + 4) j) →
      wp (f_X10_drop_57 Γ M1 w) Q := by
    intro M1 F1 e1 e3 e4
    rw [f_X10_drop_57, wp_ck_t k0, F1.i (by first | (simp; done) | (simp; omega)), w0, show (1 : Int32) = J 1 from rfl, J_sub, wp_some]
    have F2 : Fr [w] M1 (rhsi M1 w 0 (J ((n : Int) - 1))) := (Fr.refl _ _).si (by simp) _ _
    have gw : (rhsi M1 w 0 (J ((n : Int) - 1))).1 w 0 = J ((n : Int) - 1) := by rw [si_1, if_pos ⟨rfl, rfl⟩]
    generalize rhsi M1 w 0 (J ((n : Int) - 1)) = M2 at *
    refine hQ M2 ((F1.sub (by simp)).trans (F2.sub (by simp))) (fun m hm2 => ⟨by rw [gw]; congr 1; omega, fun k hk2 => ?_⟩)
    rw [F2.i (by first | (simp; done) | (simp; omega)), F2.i (by first | (simp; done) | (simp; omega)), F2.i (by first | (simp; done) | (simp; omega)), F2.i (by first | (simp; done) | (simp; omega))]
    obtain ⟨q1, q2, q3, q4⟩ := hk k hk2
    have F12 : M1.1 (w + 2) = M.1 (w + 2) := F1.i (by simp)
    rw [F12]
    by_cases c : k = wt x % 1024
    · subst c
      rw [uN_eq]
      refine ⟨?_, ?_, ?_, fun y hy => h4 y (by simp only [List.mem_append, List.mem_cons] at hy ⊢; rcases hy with h | h; exact Or.inl h; exact Or.inr (Or.inr h))⟩
      · rw [e1]
        cases A with
        | nil => rw [if_pos ⟨rfl, rfl⟩]; rfl
        | cons a A => rw [if_neg (by simp), h1]; rfl
      · exact Ch_drop nd h2 (fun y _ => e3 y) (fun y _ => e4 y) (Or.inl rfl)
      · rw [List.nodup_append] at nd ⊢
        refine ⟨nd.1, (List.nodup_cons.mp nd.2.1).2, fun a ha b hb => nd.2.2 a ha b (List.mem_cons_of_mem _ hb)⟩
    · rw [uN_ne _ _ c]
      refine ⟨by rw [e1, if_neg (fun e => c e.2)]; exact q1, ?_, q3, q4⟩
      refine Ch_cong (fun y hy => ?_) q2
      have hym := (q4 y hy).2.1
      have hyA : ¬ ((y : Int) = lastI A (-1)) := fun e => by
        by_cases hA : A = []
        · rw [hA] at e; simp only [lastI] at e; omega
        · obtain ⟨z, hz, ez⟩ := lastI_mem (A := A) (p := -1) hA
          have e5 : y = z := by rw [ez] at e; omega
          have e6 := (h4 z (by simp [hz])).2.1
          rw [e5] at hym
          omega
      have hyB : ¬ ((y : Int) = hdI B) := fun e => by
        have e6 := (h4 y (by have := hdx y e; simp [this])).2.1
        omega
      exact ⟨by rw [e3, if_neg hyA], by rw [e4, if_neg hyB]⟩
  have mid : ∀ M1 : rhM, Fr [w + 1, w + 3] M M1 → (∀ k, M1.1 (w + 1) k = if A = [] ∧ k = wt x % 1024 then J (hdI B) else M.1 (w + 1) k) → (∀ j : Nat, M1.1 (w + 3) j = if (j : Int) = lastI A (-1) then J (hdI B) else M.1 (w + 3) j) →
      wp (f_X10_drop_45 Γ M1 w (J (lastI A (-1))) (J (hdI B))) Q := by
    intro M1 F1 e1 e3
    rw [f_X10_drop_45]
    cases hB : B with
    | nil =>
      rw [wp_ite_t (by rfl)]
      rw [hB] at fin e1 e3
      exact fin M1 (F1.sub (by simp)) e1 e3 (fun j => by rw [if_neg (show ¬ ((j : Int) = hdI []) by show ¬ ((j : Int) = -1); omega), F1.i (by simp)])
    | cons z l =>
      have hz := (h4 z (by rw [hB]; simp)).1
      rw [hB] at fin e1 e3
      rw [show hdI (z :: l) = (z : Int) from rfl] at *
      have F4 : Fr [w + 4] M1 (rhsi M1 (w + 4) z (J (lastI A (-1)))) := (Fr.refl _ _).si (by simp) _ _
      rw [wp_ite_f (by rw [show (-1 : Int32) = J (-1) from rfl, J_eq (by omega) (by omega) (by omega) (by omega)]; omega), wp_ck_t k0, F1.1, r3, wp_ck_t k4, n4, J_toInt (by omega) (by omega), wp_ck_t (by omega), J_clamp (by omega) (by omega), Int.toNat_natCast]
      refine fin _ ((F1.sub (by simp)).trans (F4.sub (by simp))) (fun k => by rw [F4.i (by simp)]; exact e1 k) (fun j => by rw [F4.i (by simp)]; exact e3 j) (fun j => ?_)
      rw [si_1]
      by_cases c : j = z
      · rw [if_pos ⟨rfl, c⟩, if_pos (by omega)]
      · rw [if_neg (by omega), if_neg (by omega), F1.i (by simp)]
  rw [f_X10_drop, wp_ck_t k0, r3, wp_ck_t k4, n4, J_toInt (by omega) (by omega), wp_ck_t (by omega), J_clamp (by omega) (by omega), Int.toNat_natCast]
  dsimp only
  rw [r2, wp_ck_t k3, n3, wp_ck_t (by omega), m1, m2]
  by_cases cA : A = []
  · subst cA
    rw [show lastI [] (-1) = -1 from rfl] at *
    rw [wp_ite_t (by rfl), r1, wp_ck_t k2, n2, wp_ck_t (by omega), r4, wp_ck_t k1, n1, hwx, J_1023, J_toInt (by omega) (by omega), wp_ck_t (by omega), J_clamp (by omega) (by omega), Int.toNat_natCast]
    have F1 : Fr [w + 1] M (rhsi M (w + 1) (wt x % 1024) (J (hdI B))) := (Fr.refl _ _).si (by simp) _ _
    refine mid _ (F1.sub (by simp)) (fun k => ?_) (fun j => by rw [if_neg (by omega), F1.i (by simp)])
    rw [si_1]
    by_cases c : k = wt x % 1024
    · rw [if_pos ⟨rfl, c⟩, if_pos ⟨rfl, c⟩]
    · rw [if_neg (by omega), if_neg (fun e => c e.2)]
  · obtain ⟨z, hz, ez⟩ := lastI_mem (A := A) (p := -1) cA
    have hzc := (h4 z (by simp [hz])).1
    rw [ez] at mid ⊢
    have F1 : Fr [w + 3] M (rhsi M (w + 3) z (J (hdI B))) := (Fr.refl _ _).si (by simp) _ _
    rw [wp_ite_f (by rw [show (-1 : Int32) = J (-1) from rfl, J_eq (by omega) (by omega) (by omega) (by omega)]; omega), J_toInt (by omega) (by omega), wp_ck_t (by omega), J_clamp (by omega) (by omega), Int.toNat_natCast]
    refine mid _ (F1.sub (by simp)) (fun k => by rw [if_neg (fun e => cA e.1), F1.i (by simp)]) (fun j => ?_)
    rw [si_1]
    by_cases c : j = z
    · rw [if_pos ⟨rfl, c⟩, if_pos (by omega)]
    · rw [if_neg (by omega), if_neg (by omega)]
end
