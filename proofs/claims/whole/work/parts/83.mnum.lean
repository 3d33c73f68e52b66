/-! A STATE'S NUMBER IN THE REFERENCE -/
def les (x : Nat) : List Nat → Nat
  | [] => 0
  | y :: l => (if y < x then 1 else 0) + les x l
def lehP (F : List Nat) : Nat → Nat
  | 0 => 0
  | p + 1 => lehP F p * (F.length - p) + les (F.getD p 0) (F.drop (p + 1))
def ee (R : Nat) (L : Ar) (r : Nat) : Nat := if r < R then cum L (r + 1) else 0
def stn (R : Nat) (L : Ar) : Nat := ((lehP (fl [] L) (fl [] L).length * 7 + ee R L 0) * 7 + ee R L 1) * 7 + ee R L 2
theorem les_le (x : Nat) : ∀ l : List Nat, les x l ≤ l.length
  | [] => Nat.le_refl _
  | y :: l => by have := les_le x l; rw [les, List.length_cons]; split <;> omega
def fac : Nat → Nat
  | 0 => 1
  | n + 1 => (n + 1) * fac n
theorem lehP_lt (F : List Nat) : ∀ p, p ≤ F.length → (lehP F p + 1) * fac (F.length - p) ≤ fac F.length
  | 0, _ => by simp [lehP]
  | p + 1, h => by
    have ih := lehP_lt F p (by omega)
    have hl := les_le (F.getD p 0) (F.drop (p + 1))
    rw [List.length_drop] at hl
    obtain ⟨k, hk⟩ : ∃ k, F.length - p = k + 1 := ⟨F.length - p - 1, by omega⟩
    rw [hk, fac] at ih
    rw [lehP, hk, show F.length - (p + 1) = k by omega]
    have h1 : lehP F p * (k + 1) + les (F.getD p 0) (F.drop (p + 1)) + 1 ≤ (lehP F p + 1) * (k + 1) := by rw [Nat.add_mul]; omega
    refine Nat.le_trans (Nat.mul_le_mul_right _ h1) ?_
    rw [Nat.mul_assoc]; exact ih
theorem lehP_bound {F : List Nat} (h : F.length ≤ 6) : lehP F F.length < 720 := by
  have := lehP_lt F F.length (Nat.le_refl _)
  rw [Nat.sub_self] at this
  have h2 : ∀ n, n < 7 → fac n ≤ 720 := by decide
  have := h2 F.length (by omega)
  simp only [fac] at *; omega
theorem stn_lt {R H : Nat} {L : Ar} (wL : WA R H L) (hH : H ≤ 6) : stn R L < 246960 := by
  have h1 := lehP_bound (F := fl [] L) (by rw [wL.len]; exact hH)
  have h2 : ∀ r, ee R L r ≤ 6 := fun r => by
    unfold ee; split
    · have := wL.le (r := r + 1) (by omega); omega
    · omega
  have a := h2 0
  have b := h2 1
  have c := h2 2
  unfold stn; omega
def cnb (l : List Nat) (h x : Nat) : Nat := l.countP fun y => decide (h ≤ y ∧ y < x)
theorem les_cnb (x : Nat) : ∀ l : List Nat, les x l = cnb l 0 x
  | [] => rfl
  | y :: l => by
    have := les_cnb x l
    unfold cnb at *
    rw [les, List.countP_cons, this]
    by_cases h : y < x
    · rw [if_pos h]; simp [h]; omega
    · rw [if_neg h]; simp [h]
theorem cnb_step {l : List Nat} (nd : l.Nodup) (h x : Nat) : cnb l h x = cnb l (h + 1) x + (if h ∈ l ∧ h < x then 1 else 0) := by
  unfold cnb
  induction l with
  | nil => simp
  | cons y l ih =>
    rw [List.nodup_cons] at nd
    rw [List.countP_cons, List.countP_cons, ih nd.2]
    by_cases e : y = h
    · subst e
      by_cases c : y < x
      · simp [c, nd.1]
      · simp [c]
    · have e2 : (h ∈ y :: l) = (h ∈ l) := by simp [Ne.symm e]
      simp only [e2]
      have e3 : (decide (h ≤ y ∧ y < x)) = (decide (h + 1 ≤ y ∧ y < x)) := by
        apply decide_eq_decide.mpr; omega
      rw [e3]; omega
theorem sbit : ∀ k, k < 256 → ∀ j, j < 9 → ((J (k : Nat) >>> (J (j : Nat) &&& 31)) &&& 1) = J (k / 2 ^ j % 2 : Nat) := by decide +kernel
theorem J_dn {a b : Nat} (ha : a < 2147483648) (hb : 0 < b) (hb2 : b < 2147483648) : J a / J b = J ((a / b : Nat) : Int) := by
  rw [J_divN (by omega) (by omega) hb hb2]; rfl
theorem sub_dm (a b : Nat) : (a : Int) - ((a / b : Nat) : Int) * (b : Int) = ((a % b : Nat) : Int) := by
  have := Nat.div_add_mod a b
  have h2 : ((b * (a / b) + a % b : Nat) : Int) = a := by rw [this]
  rw [Int.natCast_add, Int.natCast_mul] at h2
  rw [Int.mul_comm]; omega
section
variable {Γ : rhG} {M : rhM} {b : Nat} {T : Tn} {g lb : Int} {L : Ar}
theorem m_st22 (hG : GK Γ) (hR : MR M) {H p x : Nat} (hH : H ≤ 8) (hp : p < 8) (hx : M.1 128 p = J x) (hx2 : x < 8) (K : Nat → Int32 → Int32 → Int32 → Int32 → Option Int32) {v2 : Int32} : ∀ (l : List Nat) (n q : Nat) (c : Int), Sg (M.1 128) q l → q + l.length = H → (∀ y, y ∈ l → y < 8) → l.length < n →
    f_X12_stateOf_22 K Γ M n 102 (J H) v2 (J p) (J c) (J q) = K 102 (J H) v2 (J p) (J (c + les x l)) := by
  intro l
  induction l with
  | nil =>
    intro n q c hs hq hy hn
    obtain ⟨n, rfl⟩ : ∃ k, n = k + 1 := ⟨n - 1, by simp only [List.length_nil] at hn; omega⟩
    simp only [List.length_nil] at hq
    rw [f_X12_stateOf_22, if_neg (by rw [J_lt (by omega) (by omega) (by omega) (by omega)]; omega)]
    simp [les]
  | cons y l ih =>
    intro n q c hs hq hy hn
    rw [List.length_cons] at hq hn
    obtain ⟨n, rfl⟩ : ∃ k, n = k + 1 := ⟨n - 1, by omega⟩
    have y8 := hy y List.mem_cons_self
    have hi := fun c => ih n (q + 1) c hs.2 (by omega) (fun z hz => hy z (List.mem_cons_of_mem _ hz)) (by omega)
    rw [f_X12_stateOf_22, if_pos (by rw [J_lt (by omega) (by omega) (by omega) (by omega)]; omega), rhck_t (GKk102 hG), MRf39 hR, rhck_t (GKk128 hG), GKl128 hG, J_toInt (by omega) (by omega), J_toInt (by omega) (by omega), rhck_t (by omega), rhck_t (by omega), J_clamp (by omega) (by omega), J_clamp (by omega) (by omega), Int.toNat_natCast, Int.toNat_natCast, hs.1, hx]
    by_cases e : y < x
    · rw [if_pos (by rw [J_lt (by omega) (by omega) (by omega) (by omega)]; omega), f_X12_stateOf_51, show (1 : Int32) = J 1 from rfl, J_add, J_add, J_suc, hi, les, if_pos e]
      congr 2; omega
    · rw [if_neg (by rw [J_lt (by omega) (by omega) (by omega) (by omega)]; omega), f_X12_stateOf_51, show (0 : Int32) = J 0 from rfl, show (1 : Int32) = J 1 from rfl, J_add, J_add, J_suc, hi, les, if_neg e]
      congr 2; omega
theorem Sg_drop {f : Nat → Int32} : ∀ {l : List Nat} {q : Nat} (k : Nat), Sg f q l → Sg f (q + k) (l.drop k)
  | l, q, 0, h => by simpa using h
  | [], q, k + 1, _ => by rw [List.drop_nil]; trivial
  | x :: l, q, k + 1, h => by
    rw [List.drop_succ_cons, show q + (k + 1) = q + 1 + k by omega]; exact Sg_drop k h.2
theorem m_st9 (hG : GK Γ) (hR : MR M) {F : List Nat} (hs : Sg (M.1 128) 0 F) (hF8 : ∀ y, y ∈ F → y < 8) (hl : F.length ≤ 8) (K : Nat → Int32 → Option Int32) : ∀ (d n p : Nat), p + d = F.length → d < n → f_X12_stateOf_9 K Γ M n 102 (J F.length) (J (lehP F p)) (J p) = K 102 (J (lehP F F.length)) := by
  intro d
  induction d with
  | zero =>
    intro n p hp hn
    obtain ⟨n, rfl⟩ : ∃ k, n = k + 1 := ⟨n - 1, by omega⟩
    rw [f_X12_stateOf_9, if_neg (by rw [J_lt (by omega) (by omega) (by omega) (by omega)]; omega), show p = F.length by omega]
  | succ d ih =>
    intro n p hp hn
    obtain ⟨n, rfl⟩ : ∃ k, n = k + 1 := ⟨n - 1, by omega⟩
    have hx := Sg_get hs (show p < F.length by omega)
    rw [Nat.zero_add] at hx
    have hx8 := hF8 _ (gd_mem 0 (show p < F.length by omega))
    have hdr := Sg_drop (p + 1) hs
    rw [Nat.zero_add] at hdr
    rw [f_X12_stateOf_9, if_pos (by rw [J_lt (by omega) (by omega) (by omega) (by omega)]; omega)]
    dsimp only
    rw [show (1 : Int32) = J 1 from rfl, J_add, J_suc, show (0 : Int32) = J 0 from rfl, m_st22 hG hR hl (by omega) hx hx8 _ (F.drop (p + 1)) rhFU (p + 1) 0 hdr (by rw [List.length_drop]; omega) (fun y hy => hF8 y (List.mem_of_mem_drop hy)) (by rw [List.length_drop]; have := FU_big; omega), f_X12_stateOf_60, J_sub, J_mul, J_add, show (1 : Int32) = J 1 from rfl, J_add, J_suc]
    have e : (lehP F p : Int) * ((F.length : Int) - p) + (0 + les (F.getD p 0) (F.drop (p + 1))) = ((lehP F (p + 1) : Nat) : Int) := by
      rw [lehP, Int.natCast_add, Int.natCast_mul, Int.ofNat_sub (by omega)]; omega
    rw [e]
    exact ih n (p + 1) (by omega) (by omega)
theorem m_stateOf (hG : GK Γ) (hR : MR M) (hT : TM M b T g lb) (hw : TWf T) (hA : RA M 128 0 129 0 L) (wL : WA (tR T) (tH T) L) : f_X12_stateOf Γ M 102 = some (J (stn (tR T) L)) := by
  have hH := m_houseMany hG hR hT
  have hRM := m_railMany hG hR hT
  have w1 := hw.1
  have w2 := hw.2.1
  have hlen := wL.len
  have h1 := m_st9 (Γ := Γ) hG hR (F := fl [] L) hA.1 (fun y hy => by have := wL.lt.mp hy; omega) (by omega) (f_X12_stateOf_75 Γ M) (fl [] L).length rhFU 0 (by omega) (by have := FU_big; omega)
  rw [f_X12_stateOf, rhck_t (GKk102 hG), hH, Option.bind_some, ← hlen]
  rw [show J ((lehP (fl [] L) 0 : Nat) : Int) = 0 from rfl, show J ((0 : Nat) : Int) = 0 from rfl] at h1
  rw [h1, f_X12_stateOf_75]
  have step : ∀ (n k : Nat) (v : Int), k < 3 → f_X12_stateOf_77 Γ M (n + 1) 102 (J v) (J k) = f_X12_stateOf_77 Γ M n 102 (J (7 * v + ee (tR T) L k)) (J ((k + 1 : Nat) : Int)) := by
    intro n k v hk
    rw [f_X12_stateOf_77, if_pos (by rw [show (3 : Int32) = J 3 from rfl, J_lt (by omega) (by omega) (by omega) (by omega)]; omega), rhck_t (GKk102 hG), hRM, Option.bind_some]
    unfold ee
    by_cases c : k < tR T
    · have he := hA.2 k (by rw [wL.1]; exact c)
      rw [Nat.zero_add] at he
      rw [if_pos (by rw [J_lt (by omega) (by omega) (by omega) (by omega)]; omega), MRf40 hR, rhck_t (GKk129 hG), GKl129 hG, J_toInt (by omega) (by omega), rhck_t (by omega), J_clamp (by omega) (by omega), Int.toNat_natCast, he, f_X12_stateOf_104, show (7 : Int32) = J 7 from rfl, J_mul, J_add, show (1 : Int32) = J 1 from rfl, J_add, J_suc, if_pos c]
    · rw [if_neg (by rw [J_lt (by omega) (by omega) (by omega) (by omega)]; omega), f_X12_stateOf_104, show (7 : Int32) = J 7 from rfl, show (0 : Int32) = J 0 from rfl, J_mul, J_add, show (1 : Int32) = J 1 from rfl, J_add, J_suc, if_neg c]; rfl
  obtain ⟨N, hN⟩ : ∃ N, rhFU = N + 1 + 1 + 1 + 1 := ⟨rhFU - 4, by have := FU_big; omega⟩
  rw [hN, show (0 : Int32) = J ((0 : Nat) : Int) from rfl, step _ _ _ (by omega), step _ _ _ (by omega), step _ _ _ (by omega), f_X12_stateOf_77, if_neg (by rw [show (3 : Int32) = J 3 from rfl, J_lt (by omega) (by omega) (by omega) (by omega)]; omega)]
  unfold stn
  simp only [Nat.zero_add, Nat.reduceAdd]
  exact congrArg (fun z => some (J z)) (by omega)
theorem m_ls60 (hG : GK Γ) {F : List Nat} (hl : F.length ≤ 6) (K : rhM → Nat → Int32 → Int32 → Option rhM) {v4 : Int32} (Q : rhM → Prop) : ∀ (p n : Nat) (M : rhM), MR M → p ≤ F.length → p < n →
    (∀ M', Fr [130] M M' → (∀ i, M'.1 130 i = if i < p then J (les (F.getD i 0) (F.drop (i + 1))) else M.1 130 i) → wp (K M' 102 (J F.length) v4) Q) →
    wp (f_X12_layState_60 K Γ n M 102 (J F.length) (J (lehP F p)) v4 (J ((p : Int) - 1))) Q := by
  intro p
  induction p with
  | zero =>
    intro n M hR hp hn hK
    obtain ⟨n, rfl⟩ : ∃ k, n = k + 1 := ⟨n - 1, by omega⟩
    rw [f_X12_layState_60, wp_ite_t (by rw [show (0 : Int32) = J 0 from rfl, J_lt (by omega) (by omega) (by omega) (by omega)]; omega)]
    exact hK M (Fr.refl _ _) (fun i => by rw [if_neg (by omega)])
  | succ p ih =>
    intro n M hR hp hn hK
    obtain ⟨n, rfl⟩ : ∃ k, n = k + 1 := ⟨n - 1, by omega⟩
    have hc := les_le (F.getD p 0) (F.drop (p + 1))
    rw [List.length_drop] at hc
    have hcl : les (F.getD p 0) (F.drop (p + 1)) < F.length - p := by omega
    have hdm := dm (a := lehP F p) hcl
    have hb : lehP F (p + 1) < 2147483648 := by
      have h1 := lehP_lt F (p + 1) hp
      have h2 : ∀ n, n < 7 → fac n ≤ 720 := by decide
      have h3 := h2 F.length (by omega)
      have h4 : 1 ≤ fac (F.length - (p + 1)) := by
        have : ∀ n, n < 7 → 1 ≤ fac n := by decide
        exact this _ (by omega)
      have := Nat.le_mul_of_pos_right (lehP F (p + 1) + 1) h4
      omega
    have e1 : ((p + 1 : Nat) : Int) - 1 = (p : Int) := by omega
    have e2 : (F.length : Int) - p = ((F.length - p : Nat) : Int) := by omega
    have e3 : (lehP F (p + 1) : Int) - ((lehP F p : Nat) : Int) * ((F.length - p : Nat) : Int) = ((les (F.getD p 0) (F.drop (p + 1)) : Nat) : Int) := by
      rw [lehP, Int.natCast_add, Int.natCast_mul]; omega
    have e4 : J (lehP F (p + 1)) / J ((F.length - p : Nat) : Int) = J (lehP F p) := by
      rw [J_dn hb (by omega) (by omega)]
      have : lehP F (p + 1) / (F.length - p) = lehP F p := by rw [lehP]; exact hdm.1
      rw [this]
    have ne : ¬ (J ((F.length - p : Nat) : Int) = 0) := by rw [show (0 : Int32) = J 0 from rfl, J_eq (by omega) (by omega) (by omega) (by omega)]; omega
    have hF : Fr [130] M (rhsi M 130 p (J (les (F.getD p 0) (F.drop (p + 1))))) := (Fr.refl _ _).si (by simp) _ _
    rw [f_X12_layState_60, e1, wp_ite_f (by rw [show (0 : Int32) = J 0 from rfl, J_lt (by omega) (by omega) (by omega) (by omega)]; omega), wp_ck_t (GKk102 hG), J_sub, e2, wp_ck_t ne, MRf41 hR, wp_ck_t (GKk130 hG), GKl130 hG, J_toInt (by omega) (by omega), wp_ck_t (by omega), wp_ck_t ne]
    dsimp only
    rw [e4, J_mul, J_sub, e3, J_clamp (by omega) (by omega), Int.toNat_natCast, show (-1 : Int32) = J (-1) from rfl, J_add, show (p : Int) + -1 = (p : Int) - 1 by omega]
    refine ih n _ hR (by omega) (by omega) (fun M' a b => hK M' (hF.trans a) (fun i => ?_))
    rw [b, si_1]
    by_cases c : i < p
    · rw [if_pos c, if_pos (by omega)]
    · rw [if_neg c]
      by_cases c2 : i = p
      · rw [if_pos ⟨rfl, c2⟩, if_pos (by omega), c2]
      · rw [if_neg (by omega), if_neg (by omega)]
theorem m_ls112 (hG : GK Γ) {F : List Nat} (nd : F.Nodup) (hF : ∀ y, y < F.length ↔ y ∈ F) (hl : F.length ≤ 6) {p : Nat} (hp : p < F.length) {v2 v5 : Int32} (K : rhM → Nat → Int32 → Int32 → Int32 → Int32 → Option rhM) (Q : rhM → Prop) : ∀ (d n : Nat) (M : rhM) (h : Nat), h + d = F.getD p 0 → d < n → wp (K M 102 v2 (J (ss (F.take p))) v5 (J (F.getD p 0))) Q →
    wp (f_X12_layState_112 K Γ n M 102 v2 (J (ss (F.take p))) v5 (J h) (J (cnb (F.drop (p + 1)) h (F.getD p 0)))) Q := by
  have hsplit : F = F.take p ++ (F.getD p 0 :: F.drop (p + 1)) := by
    rw [List.getD_eq_getElem?_getD, List.getElem?_eq_getElem hp]
    exact (List.take_append_drop p F).symm.trans (by rw [List.drop_eq_getElem_cons hp]; rfl)
  have nd2 := nd
  rw [hsplit, List.nodup_append] at nd2
  have ndd : (F.drop (p + 1)).Nodup := (List.nodup_cons.mp nd2.2.1).2
  have hxnot : F.getD p 0 ∉ F.take p := fun h => nd2.2.2 _ h _ List.mem_cons_self rfl
  have hxl : F.getD p 0 < F.length := (hF _).mpr (gd_mem 0 hp)
  have hmet : ss (F.take p) < 256 := Nat.lt_of_lt_of_le (ss_lt (H := 6) (fun x hx => by have := (hF x).mpr (List.mem_of_mem_take hx); omega)) (by decide)
  have hcnb : ∀ h x, cnb (F.drop (p + 1)) h x ≤ 6 := fun h x => by
    have : cnb (F.drop (p + 1)) h x ≤ (F.drop (p + 1)).length := List.countP_le_length
    rw [List.length_drop] at this; omega
  intro d
  induction d with
  | zero =>
    intro n M h hh hn hK
    obtain ⟨n, rfl⟩ : ∃ k, n = k + 1 := ⟨n - 1, by omega⟩
    rw [Nat.add_zero] at hh
    have hb := ss_bit (F.take p) h
    rw [Nat.testBit_eq_decide_div_mod_eq, decide_eq_decide] at hb
    have hnb : ss (F.take p) / 2 ^ h % 2 = 0 := by
      rcases Nat.mod_two_eq_zero_or_one (ss (F.take p) / 2 ^ h) with e | e
      · exact e
      · exact absurd (hb.mp e) (hh ▸ hxnot)
    have hc0 : cnb (F.drop (p + 1)) h (F.getD p 0) = 0 := by
      unfold cnb
      rw [List.countP_eq_zero]
      intro y _; rw [decide_eq_true_eq]; omega
    rw [f_X12_layState_112, sbit _ hmet h (by omega), hnb, hc0, wp_ite_f (by decide), wp_ite_f (by decide), hh]
    exact hK
  | succ d ih =>
    intro n M h hh hn hK
    obtain ⟨n, rfl⟩ : ∃ k, n = k + 1 := ⟨n - 1, by omega⟩
    have hb := ss_bit (F.take p) h
    rw [Nat.testBit_eq_decide_div_mod_eq, decide_eq_decide] at hb
    have hst := cnb_step ndd h (F.getD p 0)
    have hhF : h ∈ F := (hF h).mp (by omega)
    have hK2 := ih n M (h + 1) (by omega) (by omega) hK
    have hc6 := hcnb h (F.getD p 0)
    rw [f_X12_layState_112, sbit _ hmet h (by omega)]
    by_cases c : h ∈ F.take p
    · have hbit := hb.mpr c
      have hnd : h ∉ F.drop (p + 1) := fun h2 => nd2.2.2 _ c _ (List.mem_cons_of_mem _ h2) rfl
      rw [if_neg (fun x => hnd x.1), Nat.add_zero] at hst
      rw [hbit, wp_ite_t (by decide), f_X12_layState_128, sbit _ hmet h (by omega), hbit, wp_ite_t (by decide), f_X12_layState_146, show (0 : Int32) = J 0 from rfl, show (1 : Int32) = J 1 from rfl, J_sub, J_add, J_suc, hst, Int.sub_zero]
      exact hK2
    · have hbit : ss (F.take p) / 2 ^ h % 2 = 0 := by
        rcases Nat.mod_two_eq_zero_or_one (ss (F.take p) / 2 ^ h) with e | e
        · exact e
        · exact absurd (hb.mp e) c
      have hin : h ∈ F.drop (p + 1) := by
        rw [hsplit, List.mem_append, List.mem_cons] at hhF
        rcases hhF with h1 | h1 | h1
        · exact absurd h1 c
        · omega
        · exact h1
      rw [if_pos ⟨hin, by omega⟩] at hst
      rw [hbit, wp_ite_f (by decide), wp_ite_t (by rw [show (0 : Int32) = J 0 from rfl, J_lt (by omega) (by omega) (by omega) (by omega)]; omega), f_X12_layState_128, sbit _ hmet h (by omega), hbit, wp_ite_f (by decide), f_X12_layState_146, show (1 : Int32) = J 1 from rfl, J_sub, J_add, J_suc, hst, show (((cnb (F.drop (p + 1)) (h + 1) (F.getD p 0) + 1 : Nat) : Int) - 1) = ((cnb (F.drop (p + 1)) (h + 1) (F.getD p 0) : Nat) : Int) by omega]
      exact hK2
theorem m_ls94 (hG : GK Γ) {F : List Nat} (nd : F.Nodup) (hF : ∀ y, y < F.length ↔ y ∈ F) (hl : F.length ≤ 6) (Q : rhM → Prop) : ∀ (d n : Nat) (M : rhM) (p : Nat), MR M → p + d = F.length → d < n → (∀ i, i < F.length → M.1 130 i = J (les (F.getD i 0) (F.drop (i + 1)))) → (∀ i, i < p → M.1 128 i = J (F.getD i 0)) →
    (∀ M', Fr [128] M M' → (∀ i, i < F.length → M'.1 128 i = J (F.getD i 0)) → Q M') →
    wp (f_X12_layState_94 Γ n M 102 (J F.length) (J (ss (F.take p))) (J p)) Q := by
  intro d
  induction d with
  | zero =>
    intro n M p hR hp hn hdr hrow hQ
    obtain ⟨n, rfl⟩ : ∃ k, n = k + 1 := ⟨n - 1, by omega⟩
    rw [f_X12_layState_94, wp_ite_f (by rw [J_lt (by omega) (by omega) (by omega) (by omega)]; omega), wp_some]
    exact hQ M (Fr.refl _ _) (fun i hi => hrow i (by omega))
  | succ d ih =>
    intro n M p hR hp hn hdr hrow hQ
    obtain ⟨n, rfl⟩ : ∃ k, n = k + 1 := ⟨n - 1, by omega⟩
    have hx := (hF _).mpr (gd_mem 0 (show p < F.length by omega))
    have hss : ss (F.take p) ||| 2 ^ (F.getD p 0) = ss (F.take (p + 1)) := by
      rw [← ss_snoc]
      congr 1
      rw [List.take_succ_eq_append_getElem (show p < F.length by omega), List.getD_eq_getElem?_getD, List.getElem?_eq_getElem (show p < F.length by omega)]; rfl
    have e1 := J_1sh (F.getD p 0) (by omega)
    rw [f_X12_layState_94, wp_ite_t (by rw [J_lt (by omega) (by omega) (by omega) (by omega)]; omega), wp_ck_t (GKk102 hG), MRf41 hR, wp_ck_t (GKk130 hG), GKl130 hG, J_toInt (by omega) (by omega), wp_ck_t (by omega), J_clamp (by omega) (by omega), Int.toNat_natCast, hdr p (by omega), les_cnb]
    dsimp only
    rw [show (0 : Int32) = J ((0 : Nat) : Int) from rfl]
    have hFr : Fr [128] M (rhsi M 128 p (J (F.getD p 0))) := (Fr.refl _ _).si (by simp) _ _
    refine m_ls112 hG nd hF hl (by omega) _ Q (F.getD p 0) rhFU M 0 (by omega) (by have := FU_big; omega) ?_
    rw [f_X12_layState_155, wp_ck_t (GKk102 hG), MRf39 hR, wp_ck_t (GKk128 hG), GKl128 hG, J_toInt (by omega) (by omega), wp_ck_t (by omega), J_clamp (by omega) (by omega), Int.toNat_natCast]
    dsimp only
    rw [e1, J_or, hss, show (1 : Int32) = J 1 from rfl, J_add, J_suc]
    refine ih n _ (p + 1) hR (by omega) (by omega) (fun i hi => by rw [hFr.i (by decide)]; exact hdr i hi) (fun i hi => ?_) (fun M' a b => hQ M' (hFr.trans a) b)
    rw [si_1]
    by_cases c : i = p
    · rw [if_pos ⟨rfl, c⟩, c]
    · rw [if_neg (by omega)]; exact hrow i (by omega)
theorem Sg_of_get {f : Nat → Int32} : ∀ (l : List Nat) (q : Nat), (∀ i, i < l.length → f (q + i) = J (l.getD i 0)) → Sg f q l
  | [], _, _ => trivial
  | x :: l, q, h => ⟨by have := h 0 (by simp); simpa using this, Sg_of_get l (q + 1) (fun i hi => by
      have := h (i + 1) (by simpa using hi)
      rw [List.getD_cons_succ] at this
      rw [show q + 1 + i = q + (i + 1) by omega]; exact this)⟩
theorem m_layState (hG : GK Γ) (hR : MR M) (hT : TM M b T g lb) (hw : TWf T) (wL : WA (tR T) (tH T) L) (h4 : tR T ≤ 4) (h6 : tH T ≤ 6) : wp (f_X12_layState Γ M 102 (J (stn (tR T) L))) (fun M' => Fr [128, 129, 130] M M' ∧ RA M' 128 0 129 0 L) := by
  have hH := m_houseMany hG hR hT
  have hlen := wL.len
  have hb := stn_lt wL h6
  have hee : ∀ r, ee (tR T) L r ≤ 6 := fun r => by
    unfold ee; split
    · have := wL.le (r := r + 1) (by omega); omega
    · omega
  have x0 := hee 0
  have x1 := hee 1
  have x2 := hee 2
  have step : ∀ (n k v e : Nat) (M : rhM) (Q : rhM → Prop), MR M → k < 3 → e < 7 → v * 7 + e < 2147483648 → wp (f_X12_layState_10 (f_X12_layState_37 Γ) Γ n (rhsi M 129 k (J e)) 102 (J (tH T)) (J v) (J ((k : Int) - 1))) Q → wp (f_X12_layState_10 (f_X12_layState_37 Γ) Γ (n + 1) M 102 (J (tH T)) (J ((v * 7 + e : Nat) : Int)) (J k)) Q := by
    intro n k v e M Q hR hk he hv h
    have hdm := dm (a := v) he
    have e4 : J ((v * 7 + e : Nat) : Int) / J 7 = J v := by
      rw [show (7 : Int) = ((7 : Nat) : Int) from rfl, J_dn hv (by omega) (by omega), hdm.1]
    rw [f_X12_layState_10, wp_ite_f (by rw [show (0 : Int32) = J 0 from rfl, J_lt (by omega) (by omega) (by omega) (by omega)]; omega), wp_ck_t (GKk102 hG), MRf40 hR, wp_ck_t (GKk129 hG), GKl129 hG, J_toInt (by omega) (by omega), wp_ck_t (by omega)]
    dsimp only
    rw [show (7 : Int32) = J 7 from rfl, e4, J_mul, J_sub, J_clamp (by omega) (by omega), Int.toNat_natCast, show (-1 : Int32) = J (-1) from rfl, J_add, show ((v * 7 + e : Nat) : Int) - (v : Int) * 7 = (e : Int) by omega, show (k : Int) + -1 = (k : Int) - 1 by omega]
    exact h
  obtain ⟨N, hN⟩ : ∃ N, rhFU = N + 1 + 1 + 1 + 1 := ⟨rhFU - 4, by have := FU_big; omega⟩
  unfold stn at hb ⊢
  rw [f_X12_layState, wp_ck_t (GKk102 hG), hH, wp_bind, wp_some, hN, show (2 : Int32) = J ((2 : Nat) : Int) from rfl]
  refine step _ 2 _ _ M _ hR (by omega) (by omega) (by omega) ?_
  rw [show ((2 : Nat) : Int) - 1 = ((1 : Nat) : Int) from rfl]
  refine step _ 1 _ _ _ _ (by exact hR) (by omega) (by omega) (by omega) ?_
  rw [show ((1 : Nat) : Int) - 1 = ((0 : Nat) : Int) from rfl]
  refine step _ 0 _ _ _ _ (by exact hR) (by omega) (by omega) (by omega) ?_
  rw [show ((0 : Nat) : Int) - 1 = -1 from rfl, f_X12_layState_10, wp_ite_t (by decide)]
  have hFa : Fr [129] M (rhsi (rhsi (rhsi M 129 2 (J (ee (tR T) L 2))) 129 1 (J (ee (tR T) L 1))) 129 0 (J (ee (tR T) L 0))) := (((Fr.refl _ _).si (by simp) _ _).si (by simp) _ _).si (by simp) _ _
  have hea : ∀ r, r < 3 → (rhsi (rhsi (rhsi M 129 2 (J (ee (tR T) L 2))) 129 1 (J (ee (tR T) L 1))) 129 0 (J (ee (tR T) L 0))).1 129 r = J (ee (tR T) L r) := by
    intro r hr
    have : r = 0 ∨ r = 1 ∨ r = 2 := by omega
    rcases this with rfl | rfl | rfl <;> simp [rhsi]
  generalize rhsi (rhsi (rhsi M 129 2 (J (ee (tR T) L 2))) 129 1 (J (ee (tR T) L 1))) 129 0 (J (ee (tR T) L 0)) = M1 at *
  have hR1 := hR.fr hFa
  have hT1 : TM M1 b T g lb := hT.fr hFa (by rw [hFa.i (by decide)]) (by rw [hFa.i (by decide)]) (by rw [hFa.i (by decide)]) (by decide)
  have hRM := m_railMany hG hR1 hT1
  -- behind the ends
  have tail : ∀ M2 : rhM, Fr [129] M M2 → (∀ r, r < tR T → M2.1 129 r = J (cum L (r + 1))) → wp (f_X12_layState_52 Γ M2 102 (J (tH T)) (J (lehP (fl [] L) (fl [] L).length))) (fun M' => Fr [128, 129, 130] M M' ∧ RA M' 128 0 129 0 L) := by
    intro M2 hF2 he2
    rw [f_X12_layState_52]
    rw [show (1 : Int32) = J 1 from rfl, J_sub, ← hlen]
    refine m_ls60 hG (F := fl [] L) (by omega) _ _ (fl [] L).length rhFU M2 (hR.fr hF2) (Nat.le_refl _) (by have := FU_big; omega) (fun M3 hF3 h3 => ?_)
    rw [f_X12_layState_91, show (0 : Int32) = J (ss ((fl [] L).take 0)) from rfl]
    have hnd : (fl [] L).Nodup := wL.2.nodup_iff.mpr List.nodup_range
    have := m_ls94 (Γ := Γ) hG hnd (fun y => by rw [wL.lt, hlen]) (by omega) (fun M' => Fr [128, 129, 130] M M' ∧ RA M' 128 0 129 0 L) (fl [] L).length rhFU M3 0 ((hR.fr hF2).fr hF3) (by omega) (by have := FU_big; omega) (fun i hi => by rw [h3, if_pos hi]) (fun i hi => by omega) (fun M4 hF4 h4 => ⟨(hF2.sub (by decide)).trans ((hF3.sub (by decide)).trans (hF4.sub (by decide))), Sg_of_get _ 0 (fun i hi => by rw [Nat.zero_add]; exact h4 i hi), fun r hr => ?_⟩)
    · exact this
    · rw [wL.1] at hr
      rw [Nat.zero_add, hF4.i (by decide), hF3.i (by decide)]; exact he2 r hr
  rw [f_X12_layState_37, wp_ck_t (GKk102 hG), hRM, wp_bind, wp_some]
  by_cases c : 3 < tR T
  · rw [wp_ite_t (by rw [show (3 : Int32) = J 3 from rfl, J_lt (by omega) (by omega) (by omega) (by omega)]; omega), MRf40 hR1, wp_ck_t (GKk129 hG), GKl129 hG, wp_ck_t (by decide)]
    rw [show (3 : Int32).toNatClampNeg = 3 from rfl]
    have hF2 : Fr [129] M1 (rhsi M1 129 3 (J (tH T))) := (Fr.refl _ _).si (by simp) _ _
    refine tail _ (hFa.trans hF2) (fun r hr => ?_)
    by_cases e : r = 3
    · subst e
      rw [si_1, if_pos ⟨rfl, rfl⟩, show 3 + 1 = tR T by omega, wL.cumR]
    · rw [si_1, if_neg (by omega), hea r (by omega), ee, if_pos hr]
  · rw [wp_ite_f (by rw [show (3 : Int32) = J 3 from rfl, J_lt (by omega) (by omega) (by omega) (by omega)]; omega)]
    exact tail _ hFa (fun r hr => by rw [hea r (by omega), ee, if_pos hr])
end
