/-! SIGHTS: THE CLASS -/
def knb (n : Nat) (k : Int) (s : Si) : Bool := decide (s.1.1 ≤ n ∧ (s.2.2.1 : Int) ≤ k ∧ ¬ (s.2.2.2 ≠ -1 ∧ s.2.2.2 ≤ k))
def kst (n : Nat) (k : Int) : List Si → Nat → Nat → Nat
  | [], _, acc => acc
  | s :: l, i, acc => kst n k l (i + 1) (if knb n k s = true then acc ||| 2 ^ i else acc)
theorem kst_bit (n : Nat) (k : Int) (j : Nat) : ∀ (l : List Si) (i acc : Nat), (kst n k l i acc).testBit j = true ↔ acc.testBit j = true ∨ ∃ s, i ≤ j ∧ l[j - i]? = some s ∧ knb n k s = true
  | [], i, acc => by simp [kst]
  | s :: l, i, acc => by
    rw [kst, kst_bit n k j l (i + 1)]
    have h1 : (if knb n k s = true then acc ||| 2 ^ i else acc).testBit j = true ↔ acc.testBit j = true ∨ (i = j ∧ knb n k s = true) := by
      by_cases c : knb n k s = true
      · rw [if_pos c, Nat.testBit_or, Nat.testBit_two_pow, Bool.or_eq_true, decide_eq_true_eq]
        simp [c]
      · rw [if_neg c]; simp [c]
    rw [h1]
    constructor
    · rintro ((h | ⟨h, h2⟩) | ⟨x, h, h2, h3⟩)
      · exact Or.inl h
      · exact Or.inr ⟨s, by omega, by rw [show j - i = 0 by omega]; rfl, h2⟩
      · exact Or.inr ⟨x, by omega, by rw [show j - i = (j - (i + 1)) + 1 by omega]; exact h2, h3⟩
    · rintro (h | ⟨x, h, h2, h3⟩)
      · exact Or.inl (Or.inl h)
      · by_cases e : i = j
        · rw [show j - i = 0 by omega] at h2
          have : s = x := Option.some.inj h2
          rw [this]
          exact Or.inl (Or.inr ⟨e, h3⟩)
        · rw [show j - i = (j - (i + 1)) + 1 by omega] at h2
          exact Or.inr ⟨x, by omega, h2, h3⟩
theorem kst_lt (n : Nat) (k : Int) : ∀ (l : List Si) (i acc : Nat), acc < 2 ^ i → kst n k l i acc < 2 ^ (i + l.length)
  | [], i, acc, h => h
  | s :: l, i, acc, h => by
    rw [kst, List.length_cons, show i + (l.length + 1) = i + 1 + l.length by omega]
    refine kst_lt n k l (i + 1) _ ?_
    have h2 : 2 ^ (i + 1) = 2 * 2 ^ i := by rw [Nat.pow_succ, Nat.mul_comm]
    split
    · exact Nat.or_lt_two_pow (by omega) (by omega)
    · omega
def kset (sg : List Si) (n : Nat) (k : Int) : Nat := kst n k sg 0 0
def soS (sg : List Si) (S d : Nat) (L : Ar) : Prop := ∀ (i : Nat) (s : Si), sg[i]? = some s → S.testBit i = true → s.1.1 = d → (s.1.2.1 ∈ rl L s.1.2.2 ↔ s.2.1 = 1)
noncomputable def wk (T : Tn) (sg : List Si) (S : Nat) : Nat → Nat → Ar → List Ar
  | 0, d, L => pick (soS sg S d L) [L] []
  | m + 1, d, L => pick (soS sg S d L) ((pulls T L).flatMap fun a => wk T sg S m (d + 1) (mvA L a)) []
def orS (l : List Ar) (r : Nat) : Nat := l.foldl (fun a L => a ||| ss (rl L r)) 0
theorem orS_acc (r : Nat) : ∀ (l : List Ar) (a : Nat), l.foldl (fun a L => a ||| ss (rl L r)) a = a ||| orS l r
  | [], a => by simp [orS]
  | L :: l, a => by
    unfold orS
    rw [List.foldl_cons, List.foldl_cons, orS_acc r l, orS_acc r l, Nat.zero_or, Nat.or_assoc]
theorem orS_app (a b : List Ar) (r : Nat) : orS (a ++ b) r = orS a r ||| orS b r := by
  show (a ++ b).foldl _ 0 = _
  rw [List.foldl_append, orS_acc r b]
  rfl
theorem orS_bit (r h : Nat) : ∀ (l : List Ar), (orS l r).testBit h = true ↔ ∃ L, L ∈ l ∧ h ∈ rl L r
  | [] => by simp [orS]
  | L :: l => by
    have e : orS (L :: l) r = ss (rl L r) ||| orS l r := by
      show (L :: l).foldl _ 0 = _
      rw [List.foldl_cons, orS_acc r l, Nat.zero_or]
    rw [e, Nat.testBit_or, Bool.or_eq_true, orS_bit r h l, ss_bit, decide_eq_true_eq]
    constructor
    · rintro (x | ⟨L', x, y⟩)
      · exact ⟨L, List.mem_cons_self, x⟩
      · exact ⟨L', List.mem_cons_of_mem _ x, y⟩
    · rintro ⟨L', x, y⟩
      rcases List.mem_cons.mp x with e | e
      · rw [← e]; exact Or.inl y
      · exact Or.inr ⟨L', e, y⟩
def orR (T : Tn) (l : List Ar) (r : Nat) : Nat := if r < tR T then orS l r else 0
theorem orR_app (T : Tn) (a b : List Ar) (r : Nat) : orR T (a ++ b) r = orR T a r ||| orR T b r := by
  unfold orR; split
  · exact orS_app a b r
  · rfl
theorem orR_nil (T : Tn) (r : Nat) : orR T [] r = 0 := by unfold orR; split <;> rfl
theorem wk_WA {T : Tn} {sg : List Si} {S : Nat} : ∀ (m d : Nat) (L : Ar), WA (tR T) (tH T) L → ∀ L', L' ∈ wk T sg S m d L → WA (tR T) (tH T) L'
  | 0, d, L, w, L', h => by
    rw [wk] at h
    by_cases c : soS sg S d L
    · rw [pick_t c, List.mem_singleton] at h; rw [h]; exact w
    · rw [pick_f c] at h; simp at h
  | m + 1, d, L, w, L', h => by
    rw [wk] at h
    by_cases c : soS sg S d L
    · rw [pick_t c] at h
      obtain ⟨a, ha, h2⟩ := List.mem_flatMap.mp h
      exact wk_WA m (d + 1) _ (pulls_WA w ha) L' h2
    · rw [pick_f c] at h; simp at h
def mskV (l : List Ar) (h : Nat) : Nat := l.foldl (fun a L => a ||| 2 ^ rlO L h) 0
theorem mskV_bit (h j : Nat) : ∀ (l : List Ar) (a : Nat), (l.foldl (fun a L => a ||| 2 ^ rlO L h) a).testBit j = true ↔ a.testBit j = true ∨ ∃ L, L ∈ l ∧ rlO L h = j
  | [], a => by simp
  | L :: l, a => by
    rw [List.foldl_cons, mskV_bit h j l, Nat.testBit_or, Nat.testBit_two_pow, Bool.or_eq_true, decide_eq_true_eq]
    constructor
    · rintro ((x | x) | ⟨L', x, y⟩)
      · exact Or.inl x
      · exact Or.inr ⟨L, List.mem_cons_self, x⟩
      · exact Or.inr ⟨L', List.mem_cons_of_mem _ x, y⟩
    · rintro (x | ⟨L', x, y⟩)
      · exact Or.inl (Or.inl x)
      · rcases List.mem_cons.mp x with e | e
        · rw [← e]; exact Or.inl (Or.inr y)
        · exact Or.inr ⟨L', e, y⟩
noncomputable def wkV (T : Tn) (sg : List Si) (n : Nat) (k : Int) : List Ar := wk T sg (kset sg n k) n 0 (fst T)
noncomputable def fitV (T : Tn) (sg : List Si) (n k : Int) : Int := if 0 ≤ n ∧ n ≤ 3 then (wkV T sg n.toNat k).length else -1
noncomputable def canV (T : Tn) (sg : List Si) (h n k : Int) : Int := if 0 ≤ h ∧ h < tH T ∧ 0 ≤ n ∧ n ≤ 3 then mskV (wkV T sg n.toNat k) h.toNat else -1
def C13 (M : rhM) (T : Tn) (sg : List Si) : Prop := ∀ n, n < 4 → M.1 65 n = J (-1) ∨ ∃ S : Nat, S < 2 ^ sg.length ∧ M.1 65 n = J S ∧ M.1 66 n = J (wk T sg S n 0 (fst T)).length ∧ ∀ r, r < 5 → M.1 67 (5 * n + r) = J (orR T (wk T sg S n 0 (fst T)) r)
theorem J_bit {S i : Nat} (hS : S < 2147483648) (hi : i < 32) : rhus (J S) (J i) &&& 1 = J (if S.testBit i = true then 1 else 0) := by
  rw [J_ush hS hi, show (1 : Int32) = J ((1 : Nat) : Int) from rfl, J_and, Nat.and_one_is_mod, Nat.testBit_eq_decide_div_mod_eq]
  congr 1
  rcases Nat.mod_two_eq_zero_or_one (S / 2 ^ i) with e | e
  · rw [e]; rfl
  · rw [e]; rfl
section
variable {Γ : rhG} {M : rhM} {t t' : Nat} {T : Tn} {L : Ar}
def SgW (T : Tn) (sg : List Si) : Prop := sg.length ≤ 20 ∧ ∀ s, s ∈ sg → s.1.1 ≤ 3 ∧ s.1.2.1 < tH T ∧ s.1.2.2 < tR T ∧ s.2.1 ≤ 1 ∧ s.2.2.1 ≤ 100000 ∧ -1 ≤ s.2.2.2 ∧ s.2.2.2 ≤ 100000
theorem c_kset5 (hG : GK Γ) (hC : CR M) (hw : TWf T) {sg : List Si} (h10 : C10 M sg) (hS : SgW T sg) {n : Nat} (hn3 : n ≤ 3) {k : Int} (k1 : -2147483648 ≤ k) (k2 : k < 2147483648) : ∀ (l : List Si) (f i acc : Nat), sg.drop i = l → i + l.length = sg.length → l.length < f → f_X6_setKnownAt_5 Γ M f 55 (J n) (J k) (J acc) (J i) = some (J (kst n k l i acc)) := by
  obtain ⟨hs1, hs2⟩ := hS
  intro l
  induction l with
  | nil =>
    intro f i acc hd hi hf
    obtain ⟨f, rfl⟩ : ∃ k, f = k + 1 := ⟨f - 1, by omega⟩
    rw [List.length_nil] at hi
    rw [f_X6_setKnownAt_5, rhck_t (GKk55 hG), h10.1, if_neg (by rw [J_lt (by omega) (by omega) (by omega) (by omega)]; omega), kst]
  | cons s l ih =>
    intro f i acc hd hi hf
    obtain ⟨f, rfl⟩ : ∃ k, f = k + 1 := ⟨f - 1, by omega⟩
    rw [List.length_cons] at hi hf
    have hil : i < sg.length := by omega
    have hdr := List.drop_eq_getElem_cons hil
    rw [hd] at hdr
    have hsi : sg[i]? = some s := by rw [List.getElem?_eq_getElem hil, (List.cons.inj hdr).1]
    have hdl := (List.cons.inj hdr).2.symm
    obtain ⟨y1, y2, y3, y4, y5, y6⟩ := h10.2 i s hsi
    obtain ⟨z1, z2, z3, z4, z5, z6, z7⟩ := hs2 s (List.mem_of_getElem? hsi)
    have hci : (J (i : Int)).toNatClampNeg = i := by rw [J_clamp (by omega) (by omega), Int.toNat_natCast]
    have hri : 0 ≤ (J (i : Int)).toInt ∧ (J (i : Int)).toInt < ((20 : Nat) : Int) := by rw [J_toInt (by omega) (by omega)]; omega
    have step : ∀ acc : Nat, f_X6_setKnownAt_77 (f_X6_setKnownAt_5 Γ M f) Γ M 55 (J n) (J k) (J acc) (J i) = some (J (kst n k l (i + 1) acc)) := fun acc => by
      rw [f_X6_setKnownAt_77, show (1 : Int32) = J 1 from rfl, J_add, J_suc]
      exact ih f (i + 1) acc hdl (by omega) (by omega)
    have h41 : ∀ u : Int32, (u = 1 ∧ (s.2.2.2 ≠ -1 ∧ s.2.2.2 ≤ k)) ∨ (u = 0 ∧ ¬ (s.2.2.2 ≠ -1 ∧ s.2.2.2 ≤ k)) → f_X6_setKnownAt_41 (f_X6_setKnownAt_5 Γ M f) Γ M 55 (J n) (J k) (J acc) (J i) u = some (J (kst n k (s :: l) i acc)) := fun u hu => by
      rw [f_X6_setKnownAt_41, rhck_t (GKk55 hG), CR55_1 hC, rhck_t (GKk56 hG), GKl56 hG, rhck_t hri, hci, y1, kst]
      by_cases c1 : n < s.1.1
      · rw [if_pos (by rw [J_lt (by omega) (by omega) (by omega) (by omega)]; omega), step, if_neg (by unfold knb; rw [decide_eq_true_eq]; omega)]
      · rw [if_neg (by rw [J_lt (by omega) (by omega) (by omega) (by omega)]; omega), CR55_5 hC, rhck_t (GKk60 hG), GKl60 hG, rhck_t hri, y5]
        by_cases c2 : k < s.2.2.1
        · rw [if_pos (by rw [J_lt (by omega) (by omega) (by omega) (by omega)]; omega), step, if_neg (by unfold knb; rw [decide_eq_true_eq]; omega)]
        · rw [if_neg (by rw [J_lt (by omega) (by omega) (by omega) (by omega)]; omega)]
          rcases hu with ⟨e, hx⟩ | ⟨e, hx⟩
          · rw [e, if_neg (by decide), step, if_neg (by unfold knb; rw [decide_eq_true_eq]; omega)]
          · rw [e, if_pos rfl]
            dsimp only
            rw [J_1sh i (by omega), J_or, step, if_pos (by unfold knb; rw [decide_eq_true_eq]; omega)]
    rw [f_X6_setKnownAt_5, rhck_t (GKk55 hG), h10.1, if_pos (by rw [J_lt (by omega) (by omega) (by omega) (by omega)]; omega), CR55_6 hC, rhck_t (GKk61 hG), GKl61 hG, rhck_t hri, hci, y6, f_X6_setKnownAt_40]
    by_cases c1 : s.2.2.2 = -1
    · rw [if_pos (by rw [c1]; rfl)]; exact h41 0 (Or.inr ⟨rfl, by omega⟩)
    · rw [if_neg (by rw [show (-1 : Int32) = J (-1) from rfl, J_eq (by omega) (by omega) (by omega) (by omega)]; exact c1)]
      by_cases c2 : k < s.2.2.2
      · rw [if_pos (by rw [J_lt (by omega) (by omega) (by omega) (by omega)]; exact c2)]; exact h41 0 (Or.inr ⟨rfl, by omega⟩)
      · rw [if_neg (by rw [J_lt (by omega) (by omega) (by omega) (by omega)]; exact c2)]; exact h41 1 (Or.inl ⟨rfl, by omega⟩)
theorem c_kset (hG : GK Γ) (hC : CR M) (hw : TWf T) {sg : List Si} (h10 : C10 M sg) (hS : SgW T sg) {n : Nat} (hn3 : n ≤ 3) {k : Int} (k1 : -2147483648 ≤ k) (k2 : k < 2147483648) : f_X6_setKnownAt Γ M 55 (J n) (J k) = some (J (kset sg n k)) := by
  have := c_kset5 hG hC hw h10 hS hn3 k1 k2 sg rhFU 0 0 rfl (by omega) (by have := FU_big; have := hS.1; omega)
  rw [f_X6_setKnownAt]
  exact this
def soL (S d : Nat) (L : Ar) : List Si → Nat → Prop
  | [], _ => True
  | s :: l, i => (S.testBit i = true → s.1.1 = d → (s.1.2.1 ∈ rl L s.1.2.2 ↔ s.2.1 = 1)) ∧ soL S d L l (i + 1)
theorem soL_iff (S d : Nat) (L : Ar) : ∀ (l : List Si) (i : Nat), soL S d L l i ↔ ∀ (j : Nat) (s : Si), l[j]? = some s → S.testBit (i + j) = true → s.1.1 = d → (s.1.2.1 ∈ rl L s.1.2.2 ↔ s.2.1 = 1)
  | [], i => by simp [soL]
  | s :: l, i => by
    rw [soL, soL_iff S d L l (i + 1)]
    constructor
    · rintro ⟨h1, h2⟩ j x hj hb hd
      cases j with
      | zero => have := Option.some.inj hj; rw [← this] at hd ⊢; exact h1 hb hd
      | succ j => exact h2 j x hj (by rw [show i + 1 + j = i + (j + 1) by omega]; exact hb) hd
    · intro h
      exact ⟨fun hb hd => h 0 s rfl hb hd, fun j x hj hb hd => h (j + 1) x hj (by rw [show i + (j + 1) = i + 1 + j by omega]; exact hb) hd⟩
theorem soS_iff (sg : List Si) (S d : Nat) (L : Ar) : soS sg S d L ↔ soL S d L sg 0 := by
  rw [soL_iff]
  unfold soS
  simp only [Nat.zero_add]
theorem c_agr2 (hG : GK Γ) (hC : CR M) (hw : TWf T) {sg : List Si} (h10 : C10 M sg) (hSg : SgW T sg) {s0 S d : Nat} (hs : SS Γ M s0) (hA : SA M s0 (tR T) L) (wL : WA (tR T) (tH T) L) (hSS : S < 2147483648) (hb : M.1 55 10 = J S) (hd3 : d ≤ 3) : ∀ (l : List Si) (f i : Nat), sg.drop i = l → i + l.length = sg.length → l.length < f → f_X6_agrees_2 Γ M f 55 s0 (J d) (J i) = some (bi (soL S d L l i)) := by
  obtain ⟨hs1, hs2⟩ := hSg
  have hH8 := hw.2.1
  intro l
  induction l with
  | nil =>
    intro f i hd hi hf
    obtain ⟨f, rfl⟩ : ∃ k, f = k + 1 := ⟨f - 1, by omega⟩
    rw [List.length_nil] at hi
    rw [f_X6_agrees_2, rhck_t (GKk55 hG), h10.1, if_neg (by rw [J_lt (by omega) (by omega) (by omega) (by omega)]; omega), bi_t (by trivial)]
  | cons s l ih =>
    intro f i hd hi hf
    obtain ⟨f, rfl⟩ : ∃ k, f = k + 1 := ⟨f - 1, by omega⟩
    rw [List.length_cons] at hi hf
    have hil : i < sg.length := by omega
    have hdr := List.drop_eq_getElem_cons hil
    rw [hd] at hdr
    have hsi : sg[i]? = some s := by rw [List.getElem?_eq_getElem hil, (List.cons.inj hdr).1]
    have hdl := (List.cons.inj hdr).2.symm
    obtain ⟨y1, y2, y3, y4, y5, y6⟩ := h10.2 i s hsi
    obtain ⟨z1, z2, z3, z4, z5, z6, z7⟩ := hs2 s (List.mem_of_getElem? hsi)
    have hci : (J (i : Int)).toNatClampNeg = i := by rw [J_clamp (by omega) (by omega), Int.toNat_natCast]
    have hri : 0 ≤ (J (i : Int)).toInt ∧ (J (i : Int)).toInt < ((20 : Nat) : Int) := by rw [J_toInt (by omega) (by omega)]; omega
    have h74 : f_X6_agrees_74 (f_X6_agrees_2 Γ M f) Γ M 55 s0 (J d) (J i) = some (bi (soL S d L l (i + 1))) := by
      rw [f_X6_agrees_74, show (1 : Int32) = J 1 from rfl, J_add, J_suc]
      exact ih f (i + 1) hdl (by omega) (by omega)
    have hskip : ¬ (S.testBit i = true ∧ s.1.1 = d) → f_X6_agrees_74 (f_X6_agrees_2 Γ M f) Γ M 55 s0 (J d) (J i) = some (bi (soL S d L (s :: l) i)) := fun hn => by
      rw [h74]
      congr 1
      have e : soL S d L (s :: l) i ↔ soL S d L l (i + 1) := by rw [soL]; exact ⟨fun h => h.2, fun h => ⟨fun a b => absurd ⟨a, b⟩ hn, h⟩⟩
      by_cases c : soL S d L l (i + 1)
      · rw [bi_t c, bi_t (e.mpr c)]
      · rw [bi_f c, bi_f (fun h => c (e.mp h))]
    rw [f_X6_agrees_2, rhck_t (GKk55 hG), h10.1, if_pos (by rw [J_lt (by omega) (by omega) (by omega) (by omega)]; omega), hb, J_bit hSS (by omega)]
    by_cases c1 : S.testBit i = true
    · rw [if_pos c1, if_neg (by decide), CR55_1 hC, rhck_t (GKk56 hG), GKl56 hG, rhck_t hri, hci, y1]
      by_cases c2 : s.1.1 = d
      · have hin : ss (rl L s.1.2.2) < 256 := ss_lt (H := 8) (fun x hx => by have := wL.lt.mp (rl_sub hx); omega)
        have w1 := hw.1
        have hcr : (J (s.1.2.2 : Int)).toNatClampNeg = s.1.2.2 := by rw [J_clamp (by omega) (by omega), Int.toNat_natCast]
        rw [if_pos (by rw [c2]), rhck_t hs.1, CR55_3 hC, rhck_t (GKk58 hG), GKl58 hG, rhck_t hri, hs.2.2.2.2.2.2.2.2.2.1, rhck_t hs.2.2.2.1.1, y3, rhck_t (by rw [hs.2.2.2.1.2, J_toInt (by omega) (by omega)]; omega), CR55_2 hC, rhck_t (GKk57 hG), GKl57 hG, rhck_t hri, y2, hcr, (hA.2.2 s.1.2.2 z3).2.2, J_bit (by omega) (by omega)]
        have h59 : ∀ u : Nat, (u = 1 ↔ s.1.2.1 ∈ rl L s.1.2.2) → u ≤ 1 → f_X6_agrees_59 (f_X6_agrees_74 (f_X6_agrees_2 Γ M f) Γ M) Γ M 55 s0 (J d) (J i) (J u) = some (bi (soL S d L (s :: l) i)) := fun u hu hu1 => by
          rw [f_X6_agrees_59, rhck_t (GKk55 hG), CR55_4 hC, rhck_t (GKk59 hG), GKl59 hG, rhck_t hri, hci, y4]
          have e : soL S d L (s :: l) i ↔ (u = s.2.1 ∧ soL S d L l (i + 1)) := by
            rw [soL]
            constructor
            · intro h
              have e2 : u = 1 ↔ s.2.1 = 1 := hu.trans (h.1 c1 c2)
              exact ⟨by omega, h.2⟩
            · intro h
              exact ⟨fun _ _ => by rw [← hu, h.1], h.2⟩
          by_cases c3 : u = s.2.1
          · rw [if_pos (by rw [c3]), h74]
            congr 1
            by_cases c : soL S d L l (i + 1)
            · rw [bi_t c, bi_t (e.mpr ⟨c3, c⟩)]
            · rw [bi_f c, bi_f (fun h => c (e.mp h).2)]
          · rw [if_neg (by rw [J_eq (by omega) (by omega) (by omega) (by omega)]; omega), bi_f (fun h => c3 (e.mp h).1)]
        rw [ss_bit]
        by_cases c3 : s.1.2.1 ∈ rl L s.1.2.2
        · rw [show (if decide (s.1.2.1 ∈ rl L s.1.2.2) = true then (1 : Int) else 0) = 1 from if_pos (by simpa using c3), if_neg (by decide)]
          exact h59 1 ⟨fun _ => c3, fun _ => rfl⟩ (by omega)
        · rw [show (if decide (s.1.2.1 ∈ rl L s.1.2.2) = true then (1 : Int) else 0) = 0 from if_neg (by simpa using c3), if_pos (by decide)]
          exact h59 0 ⟨fun h => by omega, fun h => absurd h c3⟩ (by omega)
      · rw [if_neg (by rw [J_eq (by omega) (by omega) (by omega) (by omega)]; omega)]
        exact hskip (fun h => c2 h.2)
    · rw [if_neg c1, if_pos (by decide)]
      exact hskip (fun h => c1 h.1)
theorem c_agrees (hG : GK Γ) (hC : CR M) (hw : TWf T) {sg : List Si} (h10 : C10 M sg) (hSg : SgW T sg) {s0 S d : Nat} (hs : SS Γ M s0) (hA : SA M s0 (tR T) L) (wL : WA (tR T) (tH T) L) (hSS : S < 2147483648) (hb : M.1 55 10 = J S) (hd3 : d ≤ 3) : f_X6_agrees Γ M 55 s0 (J d) = some (bi (soS sg S d L)) := by
  have := c_agr2 hG hC hw h10 hSg hs hA wL hSS hb hd3 sg rhFU 0 rfl (by omega) (by have := FU_big; have := hSg.1; omega)
  rw [f_X6_agrees]
  refine Eq.trans this ?_
  congr 1
  by_cases c : soS sg S d L
  · rw [bi_t c, bi_t ((soS_iff _ _ _ _).mp c)]
  · rw [bi_f c, bi_f (fun h => c ((soS_iff _ _ _ _).mpr h))]
end
