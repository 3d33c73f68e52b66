section
variable {Γ : rhG} {M : rhM}
theorem dg_or {P : List Nat} {x : Nat} (hP : ∀ y, y ∈ P → y < 16) (hx : x < 16) (hl : P.length ≤ 15) : jl (dg P) ||| rhsh (jl x) (J (4 * P.length : Nat)) = jl (dg (P ++ [x])) := by
  have hb : dg P < 2 ^ (4 * P.length) := dg_lt hP
  have e : dg P ||| x * 2 ^ (4 * P.length) = dg (P ++ [x]) := by
    rw [dg_snoc, Nat.or_comm, Nat.mul_comm x, ← Nat.two_pow_add_eq_or_of_lt hb]; omega
  rw [jl_shl x (by omega), jl_or, Nat.shiftLeft_eq, e]
theorem c_fw40 (hG : GK Γ) {t : Nat} (kt : Γ.2.2.1 t = 10) (r10 : M.2.2 3 10 = t) (r5 : M.2.2 3 5 = 9) {h : Nat} (h1 : M.1 t 1 = J h) (hh : h ≤ 8) {F : Nat → Nat} {r : Nat} (hF : ∀ i, i < h → (M.1 9 i = J r) = (F i = r)) (K : Nat → Int64 → Int32 → Int32 → Option Int64) :
    ∀ (d i n : Nat) (P : List Nat), i + d = h → d < n → P.length + ((List.range' i d).filter fun k => F k == r).length ≤ 15 → (∀ x, x ∈ P → x < 16) → f_X4_firstWord_40 K Γ M n 3 (jl (dg P)) (J P.length) (J r) (J i) = K 3 (jl (dg (P ++ (List.range' i d).filter fun k => F k == r))) (J (P ++ (List.range' i d).filter fun k => F k == r).length) (J r) := by
  intro d
  induction d with
  | zero =>
    intro i n P hi hn hl hP
    obtain ⟨n, rfl⟩ : ∃ k, n = k + 1 := ⟨n - 1, by omega⟩
    rw [f_X4_firstWord_40, rhck_t (GKk3 hG), r10, rhck_t kt, h1, if_neg (by rw [J_lt (by omega) (by omega) (by omega) (by omega)]; omega)]
    simp
  | succ d ih =>
    intro i n P hi hn hl hP
    obtain ⟨n, rfl⟩ : ∃ k, n = k + 1 := ⟨n - 1, by omega⟩
    have e8 : Γ.2.2.2 9 = 8 := GKl9 hG
    rw [f_X4_firstWord_40, rhck_t (GKk3 hG), r10, rhck_t kt, h1, if_pos (by rw [J_lt (by omega) (by omega) (by omega) (by omega)]; omega), r5, rhck_t (GKk9 hG), rhck_t (by rw [J_toInt (by omega) (by omega), e8]; omega), J_clamp (by omega) (by omega), Int.toNat_natCast]
    rw [List.range'_succ, List.filter_cons] at hl ⊢
    have e1 : J i + 1 = J ((i + 1 : Nat) : Int) := by rw [show (1 : Int32) = J 1 from rfl, J_add, J_suc]
    by_cases c : F i = r
    · rw [if_pos (show (F i == r) = true by simpa using c), List.length_cons] at hl
      rw [if_pos (by rw [hF i (by omega)]; exact c), if_pos (show (F i == r) = true by simpa using c)]
      show f_X4_firstWord_40 K Γ M n 3 (jl (dg P) ||| rhsh (J i).toInt64 (4 * J P.length)) (J P.length + 1) (J r) (J i + 1) = _
      rw [jl_64 i (by omega), show (4 : Int32) = J 4 from rfl, J_mul, show ((4 : Int) * P.length) = ((4 * P.length : Nat) : Int) by omega, dg_or hP (by omega) (by omega), e1, show J P.length + 1 = J ((P ++ [i]).length : Nat) by rw [show (1 : Int32) = J 1 from rfl, J_add, J_suc, List.length_append]; rfl]
      rw [ih (i + 1) n (P ++ [i]) (by omega) (by omega) (by rw [List.length_append, List.length_singleton]; omega) (fun x hx => by
        rw [List.mem_append, List.mem_singleton] at hx
        rcases hx with hx | hx
        · exact hP x hx
        · omega), List.append_assoc, List.singleton_append]
    · rw [if_neg (show ¬ (F i == r) = true by simpa using c)] at hl
      rw [if_neg (by rw [hF i (by omega)]; exact c), if_neg (show ¬ (F i == r) = true by simpa using c)]
      show f_X4_firstWord_40 K Γ M n 3 (jl (dg P)) (J P.length) (J r) (J i + 1) = _
      rw [e1]
      exact ih (i + 1) n P (by omega) (by omega) (by omega) hP
def fsu (r h : Nat) (F : Nat → Nat) : Ar := (List.range r).map fun r => (List.range h).filter fun k => F k == r
theorem fsu_succ (r h : Nat) (F : Nat → Nat) : fsu (r + 1) h F = fsu r h F ++ [(List.range h).filter fun k => F k == r] := by
  unfold fsu; rw [List.range_succ, List.map_append]; rfl
/-- how many digits at most -/
theorem fsu_len (h : Nat) (F : Nat → Nat) : ∀ r, (fl [] (fsu r h F)).length + ((List.range h).filter fun k => decide (r ≤ F k)).length ≤ h
  | 0 => by
    have : fl [] (fsu 0 h F) = [] := rfl
    rw [this]
    have := List.length_filter_le (fun k => decide (0 ≤ F k)) (List.range h)
    rw [List.length_range] at this
    show 0 + _ ≤ h
    omega
  | r + 1 => by
    have ih := fsu_len h F r
    rw [fsu_succ, fl_app, List.length_append, fl_cons]
    have e : ∀ l : List Nat, (l.filter fun k => decide (r ≤ F k)).length = (l.filter fun k => F k == r).length + (l.filter fun k => decide (r + 1 ≤ F k)).length := by
      intro l
      induction l with
      | nil => rfl
      | cons x l ihl =>
        rw [List.filter_cons, List.filter_cons, List.filter_cons]
        by_cases c1 : F x = r
        · rw [if_pos (by simp; omega), if_pos (by simpa using c1), if_neg (by simp; omega), List.length_cons, List.length_cons, ihl]; omega
        · by_cases c2 : r ≤ F x
          · rw [if_pos (by simpa using c2), if_neg (by simpa using c1), if_pos (by simp; omega), List.length_cons, List.length_cons, ihl]; omega
          · rw [if_neg (by simpa using c2), if_neg (by simpa using c1), if_neg (by simp; omega), ihl]
    rw [e] at ih
    simp only [List.nil_append, List.length_append]
    have : (fl [] ([] : Ar)).length = 0 := rfl
    omega
theorem dgs_succ (r h : Nat) (F : Nat → Nat) : dgs (fsu (r + 1) h F) = (if 0 < r then dgs (fsu r h F) ++ [8] else dgs (fsu r h F)) ++ (List.range h).filter fun k => F k == r := by
  unfold dgs
  rw [fsu_succ, fl_app]
  have e1 : fl [8] [(List.range h).filter fun k => F k == r] = 8 :: (List.range h).filter fun k => F k == r := by simp [fl]
  rw [e1]
  cases r with
  | zero => rfl
  | succ r =>
    rw [if_pos (by omega)]
    have e2 : ∃ w, fl [8] (fsu (r + 1) h F) = 8 :: w := by
      unfold fsu
      rw [List.range_succ_eq_map, List.map_cons, fl_cons]
      exact ⟨_, rfl⟩
    obtain ⟨w, e2⟩ := e2
    rw [e2]
    simp
theorem fsu_dgs (r h : Nat) (F : Nat → Nat) : (dgs (fsu r h F)).length ≤ h + (r - 1) := by
  unfold dgs
  rw [List.length_drop, fl_len]
  have h1 := fsu_len h F r
  have h2 : cum (fsu r h F) (fsu r h F).length = (fl [] (fsu r h F)).length := by rw [fl_len0]
  have h3 : (fsu r h F).length = r := by unfold fsu; rw [List.length_map, List.length_range]
  rw [h2, h3, List.length_singleton]
  omega
theorem c_fw7 (hG : GK Γ) {t : Nat} (kt : Γ.2.2.1 t = 10) (r10 : M.2.2 3 10 = t) (r5 : M.2.2 3 5 = 9) {R h : Nat} (h0 : M.1 t 0 = J R) (hR : R ≤ 5) (h1 : M.1 t 1 = J h) (hh : h ≤ 8) {F : Nat → Nat} (hF : ∀ i, i < h → ∀ r : Nat, r < 5 → (M.1 9 i = J r) = (F i = r)) :
    ∀ (d r n : Nat), r + d = R → d < n → f_X4_firstWord_7 Γ M n 3 (jl (wn (fsu r h F))) (J (dgs (fsu r h F)).length) (J r) = some (jl (wn (fsu R h F))) := by
  have hbig := FU_big
  intro d
  induction d with
  | zero =>
    intro r n hr hn
    obtain ⟨n, rfl⟩ : ∃ k, n = k + 1 := ⟨n - 1, by omega⟩
    have : r = R := by omega
    rw [f_X4_firstWord_7, rhck_t (GKk3 hG), r10, rhck_t kt, h0, if_neg (by rw [J_lt (by omega) (by omega) (by omega) (by omega)]; omega), this]
  | succ d ih =>
    intro r n hr hn
    obtain ⟨n, rfl⟩ : ∃ k, n = k + 1 := ⟨n - 1, by omega⟩
    have hl := fsu_dgs r h F
    have h16 : ∀ x, x ∈ dgs (fsu r h F) → x < 16 := by
      intro x hx
      have hx := List.mem_of_mem_drop hx
      rw [fl, List.mem_flatMap] at hx
      obtain ⟨l, hl, hx⟩ := hx
      unfold fsu at hl
      rw [List.mem_map] at hl
      obtain ⟨q, -, rfl⟩ := hl
      rw [List.singleton_append, List.mem_cons, List.mem_filter, List.mem_range] at hx
      omega
    have key : ∀ P : List Nat, (∀ x, x ∈ P → x < 16) → dgs (fsu (r + 1) h F) = P ++ ((List.range h).filter fun k => F k == r) → f_X4_firstWord_37 (f_X4_firstWord_7 Γ M n) Γ M 3 (jl (dg P)) (J P.length) (J r) = some (jl (wn (fsu R h F))) := fun P h2 h4 => by
      have h5 := fsu_dgs (r + 1) h F
      have h3 : P.length + ((List.range h).filter fun k => F k == r).length ≤ 15 := by
        rw [h4, List.length_append] at h5; omega
      rw [f_X4_firstWord_37]
      show f_X4_firstWord_40 (f_X4_firstWord_83 (f_X4_firstWord_7 Γ M n) Γ M) Γ M rhFU 3 (jl (dg P)) (J P.length) (J r) (J (0 : Nat)) = _
      rw [c_fw40 hG kt r10 r5 h1 hh (F := F) (r := r) (fun i hi => hF i hi r (by omega)) _ h 0 rhFU P (by omega) (by omega) (by rw [← List.range_eq_range']; exact h3) h2, ← List.range_eq_range', ← h4]
      show f_X4_firstWord_7 Γ M n 3 (jl (wn (fsu (r + 1) h F))) (J (dgs (fsu (r + 1) h F)).length) (J r + 1) = _
      rw [show (1 : Int32) = J 1 from rfl, J_add, J_suc]
      exact ih (r + 1) n (by omega) (by omega)
    rw [f_X4_firstWord_7, rhck_t (GKk3 hG), r10, rhck_t kt, h0, if_pos (by rw [J_lt (by omega) (by omega) (by omega) (by omega)]; omega)]
    have e := dgs_succ r h F
    by_cases c : 0 < r
    · rw [if_pos (by rw [show (0 : Int32) = J 0 from rfl, J_lt (by omega) (by omega) (by omega) (by omega)]; omega)]
      rw [if_pos c] at e
      show f_X4_firstWord_37 (f_X4_firstWord_7 Γ M n) Γ M 3 (jl (dg (dgs (fsu r h F))) ||| rhsh (8 : Int64) (4 * J (dgs (fsu r h F)).length)) (J (dgs (fsu r h F)).length + 1) (J r) = _
      rw [show (8 : Int64) = jl 8 from rfl, show (4 : Int32) = J 4 from rfl, J_mul, show ((4 : Int) * (dgs (fsu r h F)).length) = ((4 * (dgs (fsu r h F)).length : Nat) : Int) by omega, dg_or h16 (by omega) (by omega), show J (dgs (fsu r h F)).length + 1 = J ((dgs (fsu r h F) ++ [8]).length : Nat) by rw [show (1 : Int32) = J 1 from rfl, J_add, J_suc, List.length_append]; rfl]
      refine key _ (fun x hx => ?_) e
      rw [List.mem_append, List.mem_singleton] at hx
      rcases hx with hx | hx
      · exact h16 x hx
      · omega
    · rw [if_neg (by rw [show (0 : Int32) = J 0 from rfl, J_lt (by omega) (by omega) (by omega) (by omega)]; omega)]
      rw [if_neg c] at e
      have e0 : r = 0 := by omega
      exact key _ h16 e
theorem c_firstWord (hG : GK Γ) {t : Nat} (kt : Γ.2.2.1 t = 10) (r10 : M.2.2 3 10 = t) (r5 : M.2.2 3 5 = 9) {R h : Nat} (h0 : M.1 t 0 = J R) (hR : R ≤ 5) (h1 : M.1 t 1 = J h) (hh : h ≤ 8) {F : Nat → Nat} (hF : ∀ i, i < h → ∀ r : Nat, r < 5 → (M.1 9 i = J r) = (F i = r)) : f_X4_firstWord Γ M 3 = some (jl (wn (fsu R h F))) :=
  c_fw7 hG kt r10 r5 h0 hR h1 hh hF R 0 rhFU (by omega) (by have := FU_big; omega)
/-- whatever the cells hold -/
theorem c_firstAny (hG : GK Γ) {t : Nat} (kt : Γ.2.2.1 t = 10) (r10 : M.2.2 3 10 = t) (r5 : M.2.2 3 5 = 9) (hC : CF M t) : ∃ v, f_X4_firstWord Γ M 3 = some v := by
  obtain ⟨R, h, hR, hh, h0, h1⟩ := hC
  refine ⟨_, c_firstWord hG kt r10 r5 h0 hR h1 hh (F := fun i => if 0 ≤ (M.1 9 i).toInt then (M.1 9 i).toInt.toNat else 99) (fun i hi r hr => ?_)⟩
  show (M.1 9 i = J (r : Nat)) = ((if 0 ≤ (M.1 9 i).toInt then (M.1 9 i).toInt.toNat else 99) = r)
  generalize M.1 9 i = v
  have e : (v = J (r : Nat)) ↔ v.toInt = r := ⟨fun q => by rw [q, J_toInt (by omega) (by omega)], fun q => by rw [← q, J_of]⟩
  rw [e]
  apply propext
  split <;> omega
theorem fst_T (B : Bd) : fst (bT B) = fsu (bR B).length (bH B).length (hR B) := rfl
theorem c_firstOk (hG : GK Γ) {t : Nat} (kt : Γ.2.2.1 t = 10) (r10 : M.2.2 3 10 = t) (r5 : M.2.2 3 5 = 9) {B : Bd} (hK : CK M t B) (hP : PW B) : f_X4_firstWord Γ M 3 = some (jl (wn (fst (bT B)))) := by
  rw [fst_T]
  refine c_firstWord hG kt r10 r5 hK.1.1 hP.1.1 hK.1.2.1 hP.1.2.1 (fun i hi r hr => ?_)
  have h5 := (hP.2.2.1 i hi).2.2.2.2
  have h6 := hP.1.1
  rw [hK.2.2.2.2.2.1 i hi, show (J (hR B i : Nat) = J (r : Nat)) = (((hR B i : Nat) : Int) = r) from J_eq (by omega) (by omega) (by omega) (by omega)]
  apply propext
  omega
end
