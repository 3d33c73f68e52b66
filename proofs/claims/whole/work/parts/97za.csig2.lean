/-! SIGHTS: THE CLASS COUNTS -/
def sdc (d : Nat) : Nat := 68 + 7 * d
/-- the cells that a count from depth d on may change -/
def WG (t d : Nat) : List Nat := [64, 66, 67, t + 9, t + 10] ++ (List.range' (sdc d) (96 - sdc d) ++ List.range' (171 + 3 * d) (12 - 3 * d))
theorem WG_in {t d r : Nat} : r ∈ WG t d ↔ (r = 64 ∨ r = 66 ∨ r = 67 ∨ r = t + 9 ∨ r = t + 10) ∨ (sdc d ≤ r ∧ r < 96 ∧ sdc d ≤ 96) ∨ (sdc d ≤ r ∧ r < sdc d + (96 - sdc d)) ∨ (171 + 3 * d ≤ r ∧ r < 171 + 3 * d + (12 - 3 * d)) := by
  unfold WG
  simp only [List.mem_append, List.mem_cons, List.not_mem_nil, or_false, List.mem_range'_1]
  omega
theorem xb_sdc {d : Nat} (hd : d < 4) : xb (sdc d) = 171 + 3 * d := by
  rcases (show d = 0 ∨ d = 1 ∨ d = 2 ∨ d = 3 by omega) with rfl | rfl | rfl | rfl <;> rfl
section
variable {Γ : rhG} {t t' : Nat} {T : Tn}
def GSt (Γ : rhG) (M : rhM) (t : Nat) (T : Tn) (sg : List Si) (S n : Nat) : Prop := CR M ∧ TSh Γ M t ∧ TC M t T ∧ PA Γ M 63 64 0 t T ∧ M.2.2 55 9 = t ∧ M.1 55 10 = J S ∧ M.1 55 11 = J n ∧ C10 M sg
def PG (Γ : rhG) (t : Nat) (W : List Nat) (T : Tn) (M M' : rhM) (n c : Nat) (v : Nat → Nat) (l : List Ar) : Prop := Fr W M M' ∧ PA Γ M' 63 64 0 t T ∧ M'.1 66 n = J ((c + l.length : Nat) : Int) ∧ (∀ i, i ≠ n → M'.1 66 i = M.1 66 i) ∧ (∀ r, r < 5 → M'.1 67 (5 * n + r) = J ((v r ||| orR T l r : Nat) : Int)) ∧ ∀ i, (i < 5 * n ∨ 5 * n + 5 ≤ i) → M'.1 67 i = M.1 67 i
theorem CR62 {M : rhM} (hC : CR M) {d : Nat} (hd : d < 4) : M.2.2 62 d = sdc d := by
  rcases (show d = 0 ∨ d = 1 ∨ d = 2 ∨ d = 3 by omega) with rfl | rfl | rfl | rfl
  · exact CR62_0 hC
  · exact CR62_1 hC
  · exact CR62_2 hC
  · exact CR62_3 hC
theorem SX68 (hG : GK Γ) {M : rhM} (hC : CR M) : SX Γ M 68 := by
  unfold SX
  rw [show xb 68 = 171 from rfl]
  exact ⟨⟨GKk171 hG, GKl171 hG⟩, ⟨GKk172 hG, GKl172 hG⟩, ⟨GKk173 hG, GKl173 hG⟩, CR68_9 hC, CR68_10 hC, CR68_11 hC⟩
theorem SS68 (hG : GK Γ) {M : rhM} (hC : CR M) : SS Γ M 68 := ⟨GKk68 hG, ⟨GKk69 hG, GKl69 hG⟩, ⟨GKk70 hG, GKl70 hG⟩, ⟨GKk71 hG, GKl71 hG⟩, ⟨GKk72 hG, GKl72 hG⟩, ⟨GKk73 hG, GKl73 hG⟩, ⟨GKk74 hG, GKl74 hG⟩, CR68_2 hC, CR68_3 hC, CR68_4 hC, CR68_5 hC, CR68_7 hC, CR68_8 hC, SX68 hG hC⟩
theorem SX75 (hG : GK Γ) {M : rhM} (hC : CR M) : SX Γ M 75 := by
  unfold SX
  rw [show xb 75 = 174 from rfl]
  exact ⟨⟨GKk174 hG, GKl174 hG⟩, ⟨GKk175 hG, GKl175 hG⟩, ⟨GKk176 hG, GKl176 hG⟩, CR75_9 hC, CR75_10 hC, CR75_11 hC⟩
theorem SS75 (hG : GK Γ) {M : rhM} (hC : CR M) : SS Γ M 75 := ⟨GKk75 hG, ⟨GKk76 hG, GKl76 hG⟩, ⟨GKk77 hG, GKl77 hG⟩, ⟨GKk78 hG, GKl78 hG⟩, ⟨GKk79 hG, GKl79 hG⟩, ⟨GKk80 hG, GKl80 hG⟩, ⟨GKk81 hG, GKl81 hG⟩, CR75_2 hC, CR75_3 hC, CR75_4 hC, CR75_5 hC, CR75_7 hC, CR75_8 hC, SX75 hG hC⟩
theorem SX82 (hG : GK Γ) {M : rhM} (hC : CR M) : SX Γ M 82 := by
  unfold SX
  rw [show xb 82 = 177 from rfl]
  exact ⟨⟨GKk177 hG, GKl177 hG⟩, ⟨GKk178 hG, GKl178 hG⟩, ⟨GKk179 hG, GKl179 hG⟩, CR82_9 hC, CR82_10 hC, CR82_11 hC⟩
theorem SS82 (hG : GK Γ) {M : rhM} (hC : CR M) : SS Γ M 82 := ⟨GKk82 hG, ⟨GKk83 hG, GKl83 hG⟩, ⟨GKk84 hG, GKl84 hG⟩, ⟨GKk85 hG, GKl85 hG⟩, ⟨GKk86 hG, GKl86 hG⟩, ⟨GKk87 hG, GKl87 hG⟩, ⟨GKk88 hG, GKl88 hG⟩, CR82_2 hC, CR82_3 hC, CR82_4 hC, CR82_5 hC, CR82_7 hC, CR82_8 hC, SX82 hG hC⟩
theorem SX89 (hG : GK Γ) {M : rhM} (hC : CR M) : SX Γ M 89 := by
  unfold SX
  rw [show xb 89 = 180 from rfl]
  exact ⟨⟨GKk180 hG, GKl180 hG⟩, ⟨GKk181 hG, GKl181 hG⟩, ⟨GKk182 hG, GKl182 hG⟩, CR89_9 hC, CR89_10 hC, CR89_11 hC⟩
theorem SS89 (hG : GK Γ) {M : rhM} (hC : CR M) : SS Γ M 89 := ⟨GKk89 hG, ⟨GKk90 hG, GKl90 hG⟩, ⟨GKk91 hG, GKl91 hG⟩, ⟨GKk92 hG, GKl92 hG⟩, ⟨GKk93 hG, GKl93 hG⟩, ⟨GKk94 hG, GKl94 hG⟩, ⟨GKk95 hG, GKl95 hG⟩, CR89_2 hC, CR89_3 hC, CR89_4 hC, CR89_5 hC, CR89_7 hC, CR89_8 hC, SX89 hG hC⟩
theorem SSd (hG : GK Γ) {M : rhM} (hC : CR M) {d : Nat} (hd : d < 4) : SS Γ M (sdc d) := by
  rcases (show d = 0 ∨ d = 1 ∨ d = 2 ∨ d = 3 by omega) with rfl | rfl | rfl | rfl
  · exact SS68 hG hC
  · exact SS75 hG hC
  · exact SS82 hG hC
  · exact SS89 hG hC
theorem GSt.fr {M M' : rhM} {W : List Nat} {sg : List Si} {S n : Nat} (h : GSt Γ M t T sg S n) (htt : t = 11 ∨ t = 22) (hF : Fr W M M') (hP : PA Γ M' 63 64 0 t T) (hW : ∀ r, r ∈ W → r = t + 9 ∨ r = t + 10 ∨ 64 ≤ r) : GSt Γ M' t T sg S n := by
  obtain ⟨h1, h2, h3, h4, h5, h6, h7, h8⟩ := h
  have hn : ∀ r, r ≠ t + 9 → r ≠ t + 10 → r < 64 → r ∉ W := fun r a b c hr => by rcases hW r hr with e | e | e <;> omega
  have e55 : M'.1 55 = M.1 55 := hF.i (hn 55 (by rcases htt with e | e <;> omega) (by rcases htt with e | e <;> omega) (by omega))
  refine ⟨fun x hx => by rw [hF.1]; exact h1 x hx, h2.fr hF.1, h3.fr hF (fun r hr => ?_), hP, by rw [hF.1]; exact h5, by rw [e55]; exact h6, by rw [e55]; exact h7, by rw [e55]; exact h8.1, fun i s hs => ?_⟩
  · simp only [List.mem_cons, List.not_mem_nil, or_false] at hr
    exact hn r (by omega) (by omega) (by rcases htt with e | e <;> omega)
  · have e : ∀ r, 56 ≤ r → r ≤ 61 → M'.1 r = M.1 r := fun r a b => hF.i (hn r (by rcases htt with e | e <;> omega) (by rcases htt with e | e <;> omega) (by omega))
    rw [e 56 (by omega) (by omega), e 57 (by omega) (by omega), e 58 (by omega) (by omega), e 59 (by omega) (by omega), e 60 (by omega) (by omega), e 61 (by omega) (by omega)]
    exact h8.2 i s hs
theorem SA.frd {M M' : rhM} {W : List Nat} {d R : Nat} {L : Ar} (h : SA M (sdc d) R L) (hF : Fr W M M') (h0 : sdc d ∉ W) (h1 : sdc d + 1 ∉ W) (h2 : sdc d + 2 ∉ W) (h3 : sdc d + 3 ∉ W) : SA M' (sdc d) R L :=
  h.ex (by rw [hF.i h0]) (hF.l h0) (hF.i h1) (hF.i h2) (hF.i h3)
theorem c_go40 (hG : GK Γ) (hw : TWf T) {sg : List Si} {S n d : Nat} {L : Ar} (hn3 : n ≤ 3) (hd : d < 4) (htt : t = 11 ∨ t = 22) (v : Nat → Nat) : ∀ (m f : Nat) (M : rhM) (r : Nat), r + m = tR T → m < f → GSt Γ M t T sg S n → SA M (sdc d) (tR T) L →
    (∀ q, q < 5 → M.1 67 (5 * n + q) = J ((if q < r then v q ||| ss (rl L q) else v q : Nat) : Int)) →
    wp (f_X6_countRow_15 Γ f M 55 (sdc d) (J r)) (fun M' => Fr [67] M M' ∧ (∀ q, q < 5 → M'.1 67 (5 * n + q) = J ((if q < tR T then v q ||| ss (rl L q) else v q : Nat) : Int)) ∧ ∀ i, (i < 5 * n ∨ 5 * n + 5 ≤ i) → M'.1 67 i = M.1 67 i) := by
  have w1 := hw.1
  intro m
  induction m with
  | zero =>
    intro f M r hr hf hGS hA hv
    obtain ⟨f, rfl⟩ : ∃ k, f = k + 1 := ⟨f - 1, by omega⟩
    obtain ⟨h1, h2, h3, h4, h5, h6, h7, h8⟩ := hGS
    rw [f_X6_countRow_15, wp_ck_t (GKk55 hG), h5, wp_ck_t h2.1, h3.1, wp_ite_f (by rw [J_lt (by omega) (by omega) (by omega) (by omega)]; omega), wp_some]
    exact ⟨Fr.refl _ _, by rw [show r = tR T by omega] at hv; exact hv, fun i hi => rfl⟩
  | succ m ih =>
    intro f M r hr hf hGS hA hv
    obtain ⟨f, rfl⟩ : ∃ k, f = k + 1 := ⟨f - 1, by omega⟩
    have hGS0 := hGS
    obtain ⟨h1, h2, h3, h4, h5, h6, h7, h8⟩ := hGS
    have hs := SSd hG h1 hd
    have hvr := hv r (by omega)
    rw [if_neg (Nat.lt_irrefl r)] at hvr
    have hidx : J n * 5 + J r = J ((5 * n + r : Nat) : Int) := by rw [show (5 : Int32) = J 5 from rfl, J_mul, J_add]; congr 1; push_cast; omega
    have hcl : (J ((5 * n + r : Nat) : Int)).toNatClampNeg = 5 * n + r := by rw [J_clamp (by omega) (by omega), Int.toNat_natCast]
    have hcr : (J (r : Int)).toNatClampNeg = r := by rw [J_clamp (by omega) (by omega), Int.toNat_natCast]
    rw [f_X6_countRow_15, wp_ck_t (GKk55 hG), h5, wp_ck_t h2.1, h3.1, wp_ite_t (by rw [J_lt (by omega) (by omega) (by omega) (by omega)]; omega), CR55_14 h1, wp_ck_t (GKk67 hG), h7, hidx, wp_ck_t (by rw [GKl67 hG, J_toInt (by omega) (by omega)]; omega), wp_ck_t hs.1, hs.2.2.2.2.2.2.2.2.2.1, wp_ck_t hs.2.2.2.1.1, wp_ck_t (by rw [hs.2.2.2.1.2, J_toInt (by omega) (by omega)]; omega), hcl, hcr, hvr, (hA.2.2 r (by omega)).2.2, J_or]
    dsimp only
    rw [show (1 : Int32) = J 1 from rfl, J_add, J_suc]
    have hF : Fr [67] M (rhsi M 67 (5 * n + r) (J ((v r ||| ss (rl L r) : Nat) : Int))) := (Fr.refl _ _).si (by simp) _ _
    refine (ih f _ (r + 1) (by omega) (by omega) (hGS0.fr htt hF (h4.fr hF (by decide)) (fun x hx => by simp at hx; omega)) (hA.frd hF (by simp [sdc]; omega) (by simp [sdc]; omega) (by simp [sdc]; omega) (by simp [sdc]; omega)) (fun q hq => ?_)).mono (fun M' h => ?_)
    · rw [si_1]
      by_cases e : q = r
      · rw [e, if_pos ⟨rfl, rfl⟩, if_pos (by omega)]
      · rw [if_neg (by omega), hv q hq]
        by_cases e2 : q < r
        · rw [if_pos e2, if_pos (by omega)]
        · rw [if_neg e2, if_neg (by omega)]
    · refine ⟨hF.trans h.1, h.2.1, fun i hi => ?_⟩
      rw [h.2.2 i hi, si_1, if_neg (by omega)]
theorem PG_zero {M M' : rhM} {W : List Nat} {n c : Nat} {v : Nat → Nat} (hF : Fr W M M') (hP : PA Γ M' 63 64 0 t T) (h66 : M'.1 66 n = J c) (h66' : ∀ i, i ≠ n → M'.1 66 i = M.1 66 i) (h67 : ∀ r, r < 5 → M'.1 67 (5 * n + r) = J (v r)) (h67' : ∀ i, (i < 5 * n ∨ 5 * n + 5 ≤ i) → M'.1 67 i = M.1 67 i) : PG Γ t W T M M' n c v [] :=
  ⟨hF, hP, h66, h66', fun r hr => by rw [orR_nil, Nat.or_zero]; exact h67 r hr, h67'⟩
theorem PG_then {M M' M'' : rhM} {W W' V : List Nat} {n c : Nat} {v : Nat → Nat} {a b : List Ar} (h : PG Γ t W T M M' n c v a) (h2 : PG Γ t W' T M' M'' n (c + a.length) (fun r => v r ||| orR T a r) b) (hW : ∀ r, r ∈ W → r ∈ V) (hW' : ∀ r, r ∈ W' → r ∈ V) : PG Γ t V T M M'' n c v (a ++ b) := by
  obtain ⟨a1, a2, a3, a4, a5, a6⟩ := h
  obtain ⟨b1, b2, b3, b4, b5, b6⟩ := h2
  exact ⟨(a1.sub hW).trans (b1.sub hW'), b2, by rw [b3, List.length_append, Nat.add_assoc], fun i hi => by rw [b4 i hi, a4 i hi], fun r hr => by rw [b5 r hr, orR_app, Nat.or_assoc], fun i hi => by rw [b6 i hi, a6 i hi]⟩
theorem sdc_s (d : Nat) : sdc (d + 1) = sdc d + 7 := by unfold sdc; omega
set_option maxHeartbeats 1000000 in
theorem c_sgoOn (hG : GK Γ) (hw : TWf T) (hRH : 0 < tH T → 0 < tR T) (htt : t = 11 ∨ t = 22) {sg : List Si} (hSg : SgW T sg) {S n : Nat} (hS : S < 2147483648) (hn3 : n ≤ 3) : ∀ (m d e : Nat) (M : rhM) (L : Ar) (c : Nat) (v : Nat → Nat), d + m = n → GSt Γ M t T sg S n → SA M (sdc d) (tR T) L → WA (tR T) (tH T) L → M.1 66 n = J c → (∀ r, r < 5 → M.1 67 (5 * n + r) = J (v r)) →
    wp ((F_X6_goOn (2 * m + 1 + e)).1 Γ M 55 (J d)) (fun M' => PG Γ t (WG t d) T M M' n c v (wk T sg S m d L)) := by
  have w1 := hw.1
  have w2 := hw.2.1
  intro m
  induction m with
  | zero =>
    intro d e M L c v hd hGS hA wL h66 h67
    have hGS0 := hGS
    obtain ⟨h1, h2, h3, h4, h5, h6, h7, h8⟩ := hGS
    have hs := SSd hG h1 (show d < 4 by omega)
    have hcd : (J (d : Int)).toNatClampNeg = d := by rw [J_clamp (by omega) (by omega), Int.toNat_natCast]
    rw [show 2 * 0 + 1 + e = e + 1 by omega]
    show wp (f_X6_goOn (F_X6_goOn e).1 (F_X6_goOn e).2 Γ M 55 (J d)) _
    rw [f_X6_goOn, wp_ck_t (GKk55 hG), CR55_7 h1, wp_ck_t (GKk62 hG), wp_ck_t (by rw [GKl62 hG, J_toInt (by omega) (by omega)]; omega), hcd, CR62 h1 (by omega)]
    rw [c_agrees hG h1 hw h8 hSg hs hA wL hS h6 (by omega), wp_bind, wp_some, wk]
    by_cases c1 : soS sg S d L
    · have hcn : (J (n : Int)).toNatClampNeg = n := by rw [J_clamp (by omega) (by omega), Int.toNat_natCast]
      rw [bi_t c1, wp_ite_f (by decide), pick_t c1, h7, wp_ite_f (by rw [J_lt (by omega) (by omega) (by omega) (by omega)]; omega), wp_bind, f_X6_countRow, wp_ck_t (GKk55 hG), CR55_13 h1, wp_ck_t (GKk66 hG), h7, wp_ck_t (by rw [GKl66 hG, J_toInt (by omega) (by omega)]; omega), hcn, h66, show (1 : Int32) = J 1 from rfl, J_add, J_suc, show (0 : Int32) = J 0 from rfl]
      dsimp only
      have hF : Fr [66] M (rhsi M 66 n (J ((c + 1 : Nat) : Int))) := (Fr.refl _ _).si (by simp) _ _
      have hP' := h4.fr hF (by decide)
      refine (c_go40 (L := L) (d := d) hG hw (sg := sg) (S := S) (n := n) hn3 (by omega) htt v (tR T) rhFU _ 0 (by omega) (by have := FU_big; omega) (hGS0.fr htt hF hP' (fun x hx => by simp at hx; omega)) (hA.frd hF (by simp [sdc]; omega) (by simp [sdc]; omega) (by simp [sdc]; omega) (by simp [sdc]; omega)) (fun q hq => by rw [si_1, if_neg (by omega), if_neg (by omega)]; exact h67 q hq)).mono (fun M' h => ?_)
      obtain ⟨y1, y2, y3⟩ := h
      rw [wp_some]
      refine ⟨(hF.sub (fun r hr => WG_in.mpr (by simp at hr; omega))).trans (y1.sub (fun r hr => WG_in.mpr (by simp at hr; omega))), hP'.fr y1 (by decide), ?_, fun i hi => ?_, fun r hr => ?_, fun i hi => ?_⟩
      · rw [y1.i (by decide), si_1, if_pos ⟨rfl, rfl⟩]; rfl
      · rw [y1.i (by decide), si_1, if_neg (by omega)]
      · rw [y2 r hr]
        congr 2
        unfold orR
        by_cases e : r < tR T
        · rw [if_pos e, if_pos e]; show _ = v r ||| (0 ||| ss (rl L r)); rw [Nat.zero_or]
        · rw [if_neg e, if_neg e, Nat.or_zero]
      · rw [y3 i hi, si_1, if_neg (by omega)]
    · rw [bi_f c1, wp_ite_t rfl, wp_some, pick_f c1]
      exact PG_zero (Fr.refl _ _) h4 h66 (fun _ _ => rfl) h67 (fun _ _ => rfl)
  | succ m ih =>
    intro d e M L c v hd hGS hA wL h66 h67
    have hGS0 := hGS
    obtain ⟨h1, h2, h3, h4, h5, h6, h7, h8⟩ := hGS
    have hs := SSd hG h1 (show d < 4 by omega)
    have hcd : (J (d : Int)).toNatClampNeg = d := by rw [J_clamp (by omega) (by omega), Int.toNat_natCast]
    rw [show 2 * (m + 1) + 1 + e = (2 * m + 1 + e) + 1 + 1 by omega]
    show wp (f_X6_goOn (F_X6_goOn ((2 * m + 1 + e) + 1)).1 (F_X6_goOn ((2 * m + 1 + e) + 1)).2 Γ M 55 (J d)) _
    rw [f_X6_goOn, wp_ck_t (GKk55 hG), CR55_7 h1, wp_ck_t (GKk62 hG), wp_ck_t (by rw [GKl62 hG, J_toInt (by omega) (by omega)]; omega), hcd, CR62 h1 (by omega)]
    rw [c_agrees hG h1 hw h8 hSg hs hA wL hS h6 (by omega), wp_bind, wp_some, wk]
    by_cases c1 : soS sg S d L
    · have hdis : dis (sdc d) t 63 64 := ⟨by unfold sdc; omega, by omega, by omega, Or.inl (by unfold sdc; omega), Or.inl (by unfold sdc; omega), Or.inl (by rw [xb_sdc (show d < 4 by omega)]; omega)⟩
      rw [bi_t c1, wp_ite_f (by decide), pick_t c1, h7, wp_ite_t (by rw [J_lt (by omega) (by omega) (by omega) (by omega)]; omega), wp_bind]
      show wp (f_X6_pullOn (F_X6_goOn (2 * m + 1 + e)).1 (F_X6_goOn (2 * m + 1 + e)).2 Γ M 55 (J d)) _
      rw [f_X6_pullOn, wp_ck_t (GKk55 hG), CR55_7 h1, wp_ck_t (GKk62 hG), wp_ck_t (by rw [GKl62 hG, J_toInt (by omega) (by omega)]; omega), hcd, CR62 h1 (by omega)]
      dsimp only
      rw [wp_ck_t hs.1, CR55_8 h1, wp_bind]
      refine (c_listPulls hw wL hdis ⟨hs, hA, h2, h3, h4⟩).mono (fun M1 q => ?_)
      obtain ⟨F1, ⟨i1, i2, i3, i4, i5⟩, hL1⟩ := q
      have hWl : ∀ r, r ∈ WP (sdc d) t 64 → r = 64 ∨ r = t + 9 ∨ r = t + 10 ∨ (sdc d ≤ r ∧ r ≤ sdc d + 6) ∨ (171 + 3 * d ≤ r ∧ r ≤ 171 + 3 * d + 2) := fun r hr => by
        unfold WP at hr
        rw [xb_sdc (show d < 4 by omega)] at hr
        simp only [List.mem_cons, List.not_mem_nil, or_false] at hr; omega
      have hGS1 := hGS0.fr htt F1 i5 (fun r hr => by have := hWl r hr; unfold sdc at this; omega)
      have n66 : 66 ∉ WP (sdc d) t 64 := fun hr => by have := hWl _ hr; unfold sdc at this; omega
      have n67 : 67 ∉ WP (sdc d) t 64 := fun hr => by have := hWl _ hr; unfold sdc at this; omega
      have hpl := pulls_len w1 w2 wL
      have loop : ∀ (rest : List Tr) (f i : Nat) (M2 : rhM) (c : Nat) (v : Nat → Nat), (pulls T L).drop i = rest → i + rest.length = (pulls T L).length → rest.length < f → GSt Γ M2 t T sg S n → SA M2 (sdc d) (tR T) L → LPu M2 (sdc d) L (pulls T L) → M2.1 66 n = J c → (∀ r, r < 5 → M2.1 67 (5 * n + r) = J (v r)) →
          wp (f_X6_pullOn_17 (F_X6_goOn (2 * m + 1 + e)).1 (F_X6_goOn (2 * m + 1 + e)).2 Γ f M2 55 (J d) (sdc d) (J i)) (fun M' => PG Γ t (WG t (d + 1)) T M2 M' n c v (rest.flatMap fun a => wk T sg S m (d + 1) (mvA L a))) := by
        intro rest
        induction rest with
        | nil =>
          intro f i M2 c v hdr hi hf g1 g2 g3 g4 g5
          obtain ⟨f, rfl⟩ : ∃ k, f = k + 1 := ⟨f - 1, by omega⟩
          rw [List.length_nil] at hi
          have hs2 := SSd hG g1.1 (show d < 4 by omega)
          rw [f_X6_pullOn_17, wp_ck_t hs2.1, g3.1, wp_ite_f (by rw [J_lt (by omega) (by omega) (by omega) (by omega)]; omega), wp_some]
          exact PG_zero (Fr.refl _ _) g1.2.2.2.1 g4 (fun _ _ => rfl) g5 (fun _ _ => rfl)
        | cons a rest ihr =>
          intro f i M2 c v hdr hi hf g1 g2 g3 g4 g5
          obtain ⟨f, rfl⟩ : ∃ k, f = k + 1 := ⟨f - 1, by omega⟩
          rw [List.length_cons] at hi hf
          have hil : i < (pulls T L).length := by omega
          have hdx := List.drop_eq_getElem_cons hil
          rw [hdr] at hdx
          have hai : (pulls T L)[i]? = some a := by rw [List.getElem?_eq_getElem hil, (List.cons.inj hdx).1]
          have ham : a ∈ pulls T L := List.mem_of_getElem? hai
          have wm := pulls_WA wL ham
          have hs2 := SSd hG g1.1 (show d < 4 by omega)
          have hs3 := SSd hG g1.1 (show d + 1 < 4 by omega)
          have hok := (pulls_ok ham).1
          have hnw := c_nextWord (Γ := Γ) (M := M2) hs2 w1 w2 wL g2 g3 hpl hai hok.1 hok.2.1 hok.2.2.1 hok.2.2.2.2
          have hcd1 : (J ((d + 1 : Nat) : Int)).toNatClampNeg = d + 1 := by rw [J_clamp (by omega) (by omega), Int.toNat_natCast]
          rw [f_X6_pullOn_17, wp_ck_t hs2.1, g3.1, wp_ite_t (by rw [J_lt (by omega) (by omega) (by omega) (by omega)]; omega), wp_ck_t (GKk55 hG), CR55_7 g1.1, wp_ck_t (GKk62 hG), show (1 : Int32) = J 1 from rfl, J_add, J_suc, wp_ck_t (by rw [GKl62 hG, J_toInt (by omega) (by omega)]; omega), hnw, wp_bind, wp_some, hcd1, CR62 g1.1 (by omega), wp_ck_t hs3.1, g1.2.2.2.2.1, wp_bind]
          refine (c_look hs3 w1 w2 wm hRH g1.2.1.1 (by simp [sdc]; omega) g1.2.2.1.1 g1.2.2.1.2.1).mono (fun M3 q => ?_)
          obtain ⟨F3, A3, -⟩ := q
          have hW3 : ∀ r, r ∈ [sdc (d + 1), sdc (d + 1) + 1, sdc (d + 1) + 2, sdc (d + 1) + 3] → sdc d + 7 ≤ r ∧ r ≤ sdc d + 10 := fun r hr => by
            rw [sdc_s] at hr
            simp only [List.mem_cons, List.not_mem_nil, or_false] at hr; omega
          have nW3 : ∀ r, (r < sdc d + 7) → r ∉ [sdc (d + 1), sdc (d + 1) + 1, sdc (d + 1) + 2, sdc (d + 1) + 3] := fun r hr hm => by have := hW3 r hm; omega
          have b68 : 68 ≤ sdc d := by unfold sdc; omega
          have b96 : sdc d + 14 ≤ 96 := by unfold sdc; omega
          have hP3 := g1.2.2.2.1.fr F3 (nW3 64 (by omega))
          have g13 := g1.fr htt F3 hP3 (fun r hr => by have := hW3 r hr; omega)
          have hPG3 : PG Γ t (WG t (d + 1)) T M2 M3 n c v [] := PG_zero (F3.sub (fun r hr => WG_in.mpr (by have := hW3 r hr; rw [sdc_s]; omega))) hP3 (by rw [F3.i (nW3 66 (by omega))]; exact g4) (fun j _ => by rw [F3.i (nW3 66 (by omega))]) (fun r hr => by rw [F3.i (nW3 67 (by omega))]; exact g5 r hr) (fun j _ => by rw [F3.i (nW3 67 (by omega))])
          rw [wp_bind]
          refine (ih (d + 1) e M3 (mvA L a) c v (by omega) g13 A3 wm (by rw [F3.i (nW3 66 (by omega))]; exact g4) (fun r hr => by rw [F3.i (nW3 67 (by omega))]; exact g5 r hr)).mono (fun M4 h4' => ?_)
          have hF4 := h4'.1
          have nW4 : ∀ r, r ≠ 64 → r ≠ 66 → r ≠ 67 → r ≠ t + 9 → r ≠ t + 10 → r < sdc d + 7 → r ∉ WG t (d + 1) := fun r a1 a2 a3 a4 a5 a6 hm => by
            have := WG_in.mp hm
            rw [sdc_s] at this; omega
          have g14 := g13.fr htt hF4 h4'.2.1 (fun r hr => by have := WG_in.mp hr; rw [sdc_s] at this; omega)
          have hA4 : SA M4 (sdc d) (tR T) L := (g2.frd F3 (nW3 _ (by omega)) (nW3 _ (by omega)) (nW3 _ (by omega)) (nW3 _ (by omega))).frd hF4 (nW4 _ (by omega) (by omega) (by omega) (by omega) (by omega) (by omega)) (nW4 _ (by omega) (by omega) (by omega) (by omega) (by omega) (by omega)) (nW4 _ (by omega) (by omega) (by omega) (by omega) (by omega) (by omega)) (nW4 _ (by omega) (by omega) (by omega) (by omega) (by omega) (by omega))
          have hxd : xb (sdc d) = 171 + 3 * d := xb_sdc (by omega)
          have nX4 : ∀ r, 171 + 3 * d ≤ r → r < 174 + 3 * d → r ∉ WG t (d + 1) := fun r a1 a2 hm => by
            have := WG_in.mp hm
            rw [sdc_s] at this; omega
          have nX3 : ∀ r, 171 ≤ r → r ∉ [sdc (d + 1), sdc (d + 1) + 1, sdc (d + 1) + 2, sdc (d + 1) + 3] := fun r hr hm => by have := hW3 r hm; omega
          have hL4 : LPu M4 (sdc d) L (pulls T L) := (g3.fr F3 (nW3 _ (by omega)) (nW3 _ (by omega)) (nW3 _ (by omega)) (nX3 _ (by omega)) (nX3 _ (by omega))).fr hF4 (nW4 _ (by omega) (by omega) (by omega) (by omega) (by omega) (by omega)) (nW4 _ (by omega) (by omega) (by omega) (by omega) (by omega) (by omega)) (nW4 _ (by omega) (by omega) (by omega) (by omega) (by omega) (by omega)) (nX4 _ (by omega) (by omega)) (nX4 _ (by omega) (by omega))
          dsimp only
          rw [J_add, J_suc]
          refine (ihr f (i + 1) M4 _ _ (List.cons.inj hdx).2.symm (by omega) (by omega) g14 hA4 hL4 h4'.2.2.1 h4'.2.2.2.2.1).mono (fun M5 h5' => ?_)
          rw [List.flatMap_cons]
          have hx := PG_then (V := WG t (d + 1)) hPG3 (a := []) (b := wk T sg S m (d + 1) (mvA L a)) (by
            obtain ⟨z1, z2, z3, z4, z5, z6⟩ := h4'
            exact ⟨z1, z2, z3, z4, fun r hr => by dsimp only; rw [z5 r hr, orR_nil, Nat.or_zero], z6⟩) (fun _ h => h) (fun _ h => h)
          rw [List.nil_append] at hx
          exact PG_then hx h5' (fun _ h => h) (fun _ h => h)
      refine (loop (pulls T L) rhFU 0 M1 c v rfl (by omega) (by have := FU_big; omega) hGS1 i2 hL1 (by rw [F1.i n66]; exact h66) (fun r hr => by rw [F1.i n67]; exact h67 r hr)).mono (fun M' h => ?_)
      obtain ⟨z1, z2, z3, z4, z5, z6⟩ := h
      rw [wp_some]
      refine ⟨(F1.sub (fun r hr => WG_in.mpr (by have := hWl r hr; unfold sdc at this ⊢; omega))).trans (z1.sub (fun r hr => WG_in.mpr (by have := WG_in.mp hr; unfold sdc at this ⊢; omega))), z2, z3, fun i hi => by rw [z4 i hi, F1.i n66], z5, fun i hi => by rw [z6 i hi, F1.i n67]⟩
    · rw [bi_f c1, wp_ite_t rfl, wp_some, pick_f c1]
      exact PG_zero (Fr.refl _ _) h4 h66 (fun _ _ => rfl) h67 (fun _ _ => rfl)
/-- a count may be of a town told anew: the field that names it is of no account -/
theorem KP_cnt {M M' : rhM} {W : List Nat} (htt : t = 11 ∨ t = 22) (hW : ∀ r, r ∈ W → r = t + 9 ∨ r = t + 10 ∨ (64 ≤ r ∧ r < 96) ∨ (171 ≤ r ∧ r < 183)) (hF : Fr W M M') : KP [0, 13] M M' ∧ KC M M' := by
  have hid : ∀ r, r < 96 → 64 ≤ r → idl.getD r 12 ∈ ([0, 13] : List Nat) := by decide
  have hid2 : ∀ r, r < 183 → 171 ≤ r → idl.getD r 12 ∈ ([0, 13] : List Nat) := by decide +kernel
  refine ⟨KP.fr hF (fun r hr => ?_), KC.fr hF (fun r hr => ?_)⟩
  · rcases hW r hr with e | e | e | e
    · rcases htt with e2 | e2 <;> (rw [e, e2]; decide)
    · rcases htt with e2 | e2 <;> (rw [e, e2]; decide)
    · exact ⟨by omega, by omega, by omega, hid r e.2 e.1⟩
    · exact ⟨by omega, by omega, by omega, hid2 r e.2 e.1⟩
  · rcases hW r hr with e | e | e | e <;> rcases htt with e2 | e2 <;> omega
theorem DP_big : 10 < rhDP := by decide
theorem c_scount (hG : GK Γ) {M : rhM} (hC : CR M) (hT : C3 M t t' T) (hw : TWf T) (hRH : 0 < tH T → 0 < tR T) {sg : List Si} (h10 : C10 M sg) (hSg : SgW T sg) (h13 : C13 M T sg) {n : Nat} (hn3 : n ≤ 3) {k : Int} (k1 : -2147483648 ≤ k) (k2 : k < 2147483648) : wp (f_X6_count Γ M 55 t (J n) (J k)) (fun M' => KP [0, 13] M M' ∧ KC M M' ∧ C13 M' T sg ∧ M'.1 66 n = J (wkV T sg n k).length ∧ ∀ r, r < 5 → M'.1 67 (5 * n + r) = J (orR T (wkV T sg n k) r)) := by
  have htt := hT.tt
  have hts := hT.ts hG hC
  have hcn : (J (n : Int)).toNatClampNeg = n := by rw [J_clamp (by omega) (by omega), Int.toNat_natCast]
  have hr4 : 0 ≤ (J (n : Int)).toInt ∧ (J (n : Int)).toInt < ((4 : Nat) : Int) := by rw [J_toInt (by omega) (by omega)]; omega
  have hks : kset sg n k < 2 ^ sg.length := by have := kst_lt n k sg 0 0 (by decide); rw [Nat.zero_add] at this; exact this
  have h20 : 2 ^ sg.length ≤ 2 ^ 20 := pow_le hSg.1
  have hk31 : kset sg n k < 2147483648 := by omega
  rw [f_X6_count, wp_ck_t (GKk55 hG), c_kset hG hC hw h10 hSg hn3 k1 k2, wp_bind, wp_some, CR55_12 hC, wp_ck_t (GKk65 hG), GKl65 hG, wp_ck_t hr4, hcn]
  by_cases c1 : M.1 65 n = J (kset sg n k)
  · rw [wp_ite_t c1, wp_some]
    rcases h13 n (by omega) with e | ⟨S, s1, s2, s3, s4⟩
    · rw [e, J_eq (by omega) (by omega) (by omega) (by omega)] at c1; omega
    · rw [s2, J_eq (by omega) (by omega) (by omega) (by omega)] at c1
      have : S = kset sg n k := by omega
      subst this
      exact ⟨KP.refl _ _, KC.refl _, h13, s3, s4⟩
  rw [wp_ite_f c1]
  dsimp only
  rw [CR55_13 hC, wp_ck_t (GKk66 hG), GKl66 hG, wp_ck_t hr4, CR55_14 hC]
  have e9 : ∀ r i, (rhsi (rhsi M 65 n (J (kset sg n k))) 66 n 0).1 r i = if r = 66 ∧ i = n then 0 else if r = 65 ∧ i = n then J (kset sg n k) else M.1 r i := fun r i => by rw [si_1, si_1]
  have F9 : Fr [65, 66] M (rhsi (rhsi M 65 n (J (kset sg n k))) 66 n 0) := ((Fr.refl _ _).si (by simp) _ _).si (by simp) _ _
  obtain ⟨M9, hM9⟩ : ∃ N, N = rhsi (rhsi M 65 n (J (kset sg n k))) 66 n 0 := ⟨_, rfl⟩
  rw [← hM9] at e9 F9 ⊢
  rw [show (5 : Int32) = J 5 from rfl, show (1 : Int32) = J 1 from rfl, J_mul, J_add, J_mul, show (n : Int) * 5 = ((5 * n : Nat) : Int) by omega, show ((n : Int) + 1) * 5 = ((5 * n + 5 : Nat) : Int) by omega, wp_bind]
  refine (c_fillI (r := 67) (n := 20) (GKk67 hG) (GKl67 hG) (by omega) (show 5 * n ≤ 5 * n + 5 by omega) (by omega)).mono (fun M10 q => ?_)
  obtain ⟨F10, e10⟩ := q
  have hC10 : CR M10 := fun x hx => by rw [F10.1, F9.1]; exact hC x hx
  have r11a : ∀ a j, ¬ (a = 55 ∧ j = 9) → (rhsr M10 55 9 t).2.2 a j = M10.2.2 a j := fun a j h => sr_ne h
  rw [wp_ck_t (show Γ.2.2.1 ((rhsr M10 55 9 t).2.2 55 8) = 3 by rw [r11a _ _ (by omega), CR55_8 hC10]; exact GKk63 hG), r11a 55 8 (by omega), CR55_8 hC10]
  have e13 : ∀ r i, (rhsi (rhsi (rhsr M10 55 9 t) 55 10 (J (kset sg n k))) 55 11 (J n)).1 r i = if r = 55 ∧ i = 11 then J n else if r = 55 ∧ i = 10 then J (kset sg n k) else M10.1 r i := fun r i => by rw [si_1, si_1]; rfl
  have l13 : (rhsi (rhsi (rhsr M10 55 9 t) 55 10 (J (kset sg n k))) 55 11 (J n)).2.1 = M10.2.1 := rfl
  have r13 : ∀ a j, (rhsi (rhsi (rhsr M10 55 9 t) 55 10 (J (kset sg n k))) 55 11 (J n)).2.2 a j = if a = 55 ∧ j = 9 then t else M10.2.2 a j := fun a j => rfl
  obtain ⟨M13, hM13⟩ : ∃ N, N = rhsi (rhsi (rhsr M10 55 9 t) 55 10 (J (kset sg n k))) 55 11 (J n) := ⟨_, rfl⟩
  rw [← hM13] at e13 l13 r13 ⊢
  have ht55 : t ≠ 55 ∧ t < 55 := by rcases htt with e | e <;> omega
  have i13 : ∀ r, r ≠ 55 → r ≠ 65 → r ≠ 66 → r ≠ 67 → M13.1 r = M.1 r := fun r a b c d => by
    funext i
    rw [e13, if_neg (by omega), if_neg (by omega), F10.i (by simp; omega), e9, if_neg (by omega), if_neg (by omega)]
  have j13 : ∀ r, r ≠ 55 → r ≠ 65 → r ≠ 66 → r ≠ 67 → M13.2.1 r = M.2.1 r := fun r a b c d => by
    rw [l13, F10.l (by simp; omega), F9.l (by simp; omega)]
  have q13 : ∀ a j, ¬ (a = 55 ∧ j = 9) → M13.2.2 a j = M.2.2 a j := fun a j h => by rw [r13, if_neg h, F10.1, F9.1]
  have hT13 : TC M13 t T := by
    have h := hT.2.2.2
    unfold TC at h ⊢
    have f : ∀ r, r < 55 → M13.1 r = M.1 r := fun r hr => i13 r (by omega) (by omega) (by omega) (by omega)
    rw [f t (by omega), j13 t (by omega) (by omega) (by omega) (by omega), f (t + 1) (by omega), f (t + 2) (by omega), f (t + 3) (by omega), f (t + 4) (by omega), f (t + 6) (by omega), f (t + 7) (by omega), f (t + 8) (by omega)]
    exact h
  have hC13 : CR M13 := fun x hx => by
    rw [q13 x.1 x.2.1 (fun h => by
      have : ∀ y ∈ crl, ¬ (y.1 = 55 ∧ y.2.1 = 9) := by decide
      exact this x hx h)]
    exact hC x hx
  have kp13 : KP [0, 13] M M13 := by
    refine ⟨fun r i hn => ?_, fun r i hn => ?_, fun r i hn => ?_⟩
    · by_cases e : r = 55
      · subst e
        by_cases c2 : i = 10 ∨ i = 11
        · exact absurd (by rcases c2 with e | e <;> (rw [e]; decide)) hn
        · rw [e13, if_neg (by omega), if_neg (by omega), F10.i (by decide), e9, if_neg (by omega), if_neg (by omega)]
      · by_cases c2 : r = 65 ∨ r = 66 ∨ r = 67
        · exact absurd (by rw [idc_cell (by omega) e (by omega)]; rcases c2 with e | e | e <;> (rw [e]; decide)) hn
        · rw [i13 r e (by omega) (by omega) (by omega)]
    · by_cases c2 : r = 65 ∨ r = 66 ∨ r = 67
      · exact absurd (by rw [idL_cell (by omega) (by omega)]; rcases c2 with e | e | e <;> (rw [e]; decide)) hn
      · by_cases e : r = 55
        · rw [l13, F10.l (by rw [e]; decide), F9.l (by rw [e]; decide)]
        · rw [j13 r e (by omega) (by omega) (by omega)]
    · by_cases e : r = 55 ∧ i = 9
      · exact absurd (by rw [e.1, e.2]; decide) hn
      · rw [q13 r i e]
  have kc13 : KC M M13 := fun r a b => ⟨i13 r (by omega) (by omega) (by omega) (by omega), j13 r (by omega) (by omega) (by omega) (by omega), by funext j; exact q13 r j (by omega)⟩
  rw [wp_bind]
  refine (c_pbegin (Ln := 0) (kn := 64) (T := T) (GKk63 hG) (CR63_0 hC13) (GKk64 hG) (GKl64 hG) (by omega) hts.1 hT13 hw).mono (fun M15 q => ?_)
  obtain ⟨F15, P15⟩ := q
  have r15 : ∀ a j, ¬ (a = 63 ∧ j = 1) → M15.2.2 a j = M13.2.2 a j := fun a j h => by rw [F15.1, sr_ne h]
  have i15 : ∀ r, r ≠ 64 → M15.1 r = M13.1 r ∧ M15.2.1 r = M13.2.1 r := fun r hr => F15.2 r (by simp; omega)
  have hC15 : CR M15 := fun x hx => by
    rw [r15 x.1 x.2.1 (fun h => by
      have : ∀ y ∈ crl, ¬ (y.1 = 63 ∧ y.2.1 = 1) := by decide
      exact this x hx h)]
    exact hC13 x hx
  have hts15 : TSh Γ M15 t := by
    rcases htt with e | e
    · rw [e]; exact TS11 hG hC15
    · rw [e]; exact TS22 hG hC15
  have hT15 : TC M15 t T := by
    have h := hT13
    unfold TC at h ⊢
    have f : ∀ r, r < 55 → M15.1 r = M13.1 r := fun r hr => (i15 r (by omega)).1
    rw [f t (by omega), (i15 t (by omega)).2, f (t + 1) (by omega), f (t + 2) (by omega), f (t + 3) (by omega), f (t + 4) (by omega), f (t + 6) (by omega), f (t + 7) (by omega), f (t + 8) (by omega)]
    exact h
  have wF := fst_WA T hw
  rw [CR55_7 hC15, wp_ck_t (GKk62 hG), wp_ck_t (by rw [GKl62 hG]; decide), wp_ck_t hts.1, show (0 : Int32).toNatClampNeg = 0 from rfl, CR62_0 hC15, wp_ck_t (GKk68 hG), hT15.2.2.2.2.1, wp_bind]
  refine (c_look (SSd hG hC15 (d := 0) (by omega)) hw.1 hw.2.1 wF hRH hts.1 (by unfold sdc; simp; rcases htt with e | e <;> omega) hT15.1 hT15.2.1).mono (fun M20 q => ?_)
  obtain ⟨F20, A20, -⟩ := q
  have F20' : Fr [68, 69, 70, 71] M15 M20 := F20
  have kp1520 : KP [0, 13] M15 M20 := KP.fr F20' (by decide)
  have kp1315 : KP [0, 13] M13 M15 := by
    refine ⟨fun r i hn => ?_, fun r i hn => ?_, fun r i hn => ?_⟩
    · by_cases e : r = 64
      · exact absurd (by rw [e, idc_cell (by decide) (by decide) (by decide)]; decide) hn
      · rw [(i15 r e).1]
    · by_cases e : r = 64
      · exact absurd (by rw [e, idL_cell (by decide) (by decide)]; decide) hn
      · rw [(i15 r e).2]
    · by_cases e : r = 63 ∧ i = 1
      · exact absurd (by rw [e.1, e.2]; decide) hn
      · rw [r15 r i e]
  have kc1320 : KC M13 M20 := fun r a b => by
    have x := F20'.2 r (by simp; omega)
    have y := i15 r (by omega)
    exact ⟨x.1.trans y.1, x.2.trans y.2, by funext j; rw [F20'.1]; exact r15 r j (by omega)⟩
  have P20 := P15.fr F20' (by decide)
  have g55 : M20.1 55 10 = J (kset sg n k) ∧ M20.1 55 11 = J n := by
    rw [F20'.i (by decide), (i15 55 (by omega)).1, e13, e13, if_neg (by omega), if_pos ⟨rfl, rfl⟩, if_pos ⟨rfl, rfl⟩]
    exact ⟨rfl, rfl⟩
  have hT20 : TC M20 t T := hT15.fr F20' (fun r hr => by simp only [List.mem_cons, List.not_mem_nil, or_false] at hr; simp; omega)
  have h1020 : C10 M20 sg := h10.kp ((kp13.trans kp1315).trans kp1520) (by decide)
  have hGS : GSt Γ M20 t T sg (kset sg n k) n := ⟨fun x hx => by rw [F20'.1]; exact hC15 x hx, hts15.fr F20'.1, hT20, P20, by rw [F20'.1, r15 55 9 (by omega), r13, if_pos ⟨rfl, rfl⟩], g55.1, g55.2, h1020⟩
  have v66 : M20.1 66 = M9.1 66 := by
    rw [F20'.i (by decide), (i15 66 (by omega)).1]
    funext i; rw [e13, if_neg (by omega), if_neg (by omega), F10.i (by decide)]
  have v67 : M20.1 67 = M10.1 67 := by
    rw [F20'.i (by decide), (i15 67 (by omega)).1]
    funext i; rw [e13, if_neg (by omega), if_neg (by omega)]
  have v65 : M20.1 65 = M9.1 65 := by
    rw [F20'.i (by decide), (i15 65 (by omega)).1]
    funext i; rw [e13, if_neg (by omega), if_neg (by omega), F10.i (by decide)]
  obtain ⟨e, he⟩ : ∃ e, rhDP = 2 * n + 1 + e := ⟨rhDP - (2 * n + 1), by have := DP_big; omega⟩
  rw [wp_bind, h_X6_goOn, he]
  refine (c_sgoOn hG hw hRH htt hSg hk31 hn3 n 0 e M20 (fst T) 0 (fun _ => 0) (by omega) hGS A20 wF (by rw [v66, e9, if_pos ⟨rfl, rfl⟩]; rfl) (fun r hr => by rw [v67, e10, if_pos (by omega)]; rfl)).mono (fun M21 q => ?_)
  obtain ⟨z1, z2, z3, z4, z5, z6⟩ := q
  obtain ⟨kz, kcz⟩ := KP_cnt (W := WG t 0) htt (fun r hr => by have := WG_in.mp hr; unfold sdc at this; omega) z1
  rw [Nat.zero_add] at z3
  have z5' : ∀ r, r < 5 → M21.1 67 (5 * n + r) = J (orR T (wk T sg (kset sg n k) n 0 (fst T)) r) := fun r hr => by rw [z5 r hr, Nat.zero_or]
  rw [wp_some]
  refine ⟨((kp13.trans kp1315).trans kp1520).trans kz, (kc13.trans kc1320).trans kcz, fun x hx => ?_, z3, z5'⟩
  have w65 : M21.1 65 = M20.1 65 := z1.i (fun h => by have := WG_in.mp h; unfold sdc at this; rcases htt with e | e <;> omega)
  rw [w65, v65, e9, if_neg (by omega)]
  by_cases c2 : x = n
  · rw [if_pos ⟨rfl, c2⟩, c2]
    exact Or.inr ⟨kset sg n k, hks, rfl, z3, z5'⟩
  · rw [if_neg (by omega)]
    rcases h13 x hx with e | ⟨S, s1, s2, s3, s4⟩
    · exact Or.inl e
    · refine Or.inr ⟨S, s1, s2, ?_, fun r hr => ?_⟩
      · rw [z4 x c2, v66, e9, if_neg (by omega), if_neg (by omega)]; exact s3
      · rw [z6 _ (by omega), v67, e10, if_neg (by omega), e9, if_neg (by omega), if_neg (by omega)]; exact s4 r hr
theorem c_railsOf (hG : GK Γ) {M : rhM} (hC : CR M) (hw : TWf T) {l : List Ar} (hv : ∀ L, L ∈ l → WA (tR T) (tH T) L) {n h : Nat} (hn3 : n ≤ 3) (hh : h < tH T) (h67 : ∀ r, r < 5 → M.1 67 (5 * n + r) = J (orR T l r)) : f_X6_railsOf Γ M 55 (J h) (J n) = some (J (mskV l h)) := by
  have w1 := hw.1
  have w2 := hw.2.1
  have hlt : ∀ r, orR T l r < 2147483648 := fun r => by
    unfold orR
    split
    · have : orS l r < 2 ^ 8 := by
        apply Nat.lt_pow_two_of_testBit
        intro i hi
        cases e : (orS l r).testBit i with
        | false => rfl
        | true =>
          obtain ⟨L, h1, h2⟩ := (orS_bit r i l).mp e
          have := (hv L h1).lt.mp (rl_sub h2); omega
      omega
    · omega
  let fb : Nat → Nat := fun k => (List.range k).foldl (fun a r => a ||| (if (orR T l r).testBit h = true then 1 else 0) * 2 ^ r) 0
  have fs : ∀ k, fb (k + 1) = fb k ||| (if (orR T l k).testBit h = true then 1 else 0) * 2 ^ k := fun k => by
    show (List.range (k + 1)).foldl _ 0 = _
    rw [List.range_succ, List.foldl_append]; rfl
  have key : ∀ (d f r : Nat), r + d = 5 → d < f → f_X6_railsOf_5 Γ M f 55 (J h) (J n) (J (fb r)) (J r) = some (J (fb 5)) := by
    intro d
    induction d with
    | zero =>
      intro f r hr hf
      obtain ⟨f, rfl⟩ : ∃ k, f = k + 1 := ⟨f - 1, by omega⟩
      rw [f_X6_railsOf_5, if_neg (by rw [show (5 : Int32) = J 5 from rfl, J_lt (by omega) (by omega) (by omega) (by omega)]; omega), show r = 5 by omega]
    | succ d ih =>
      intro f r hr hf
      obtain ⟨f, rfl⟩ : ∃ k, f = k + 1 := ⟨f - 1, by omega⟩
      have hidx : J n * 5 + J r = J ((5 * n + r : Nat) : Int) := by rw [show (5 : Int32) = J 5 from rfl, J_mul, J_add]; congr 1; push_cast; omega
      rw [f_X6_railsOf_5, if_pos (by rw [show (5 : Int32) = J 5 from rfl, J_lt (by omega) (by omega) (by omega) (by omega)]; omega), rhck_t (GKk55 hG), CR55_14 hC, rhck_t (GKk67 hG), hidx, rhck_t (by rw [GKl67 hG, J_toInt (by omega) (by omega)]; omega), J_clamp (a := ((5 * n + r : Nat) : Int)) (by omega) (by omega), Int.toNat_natCast, h67 r (by omega), J_bit (hlt r) (by omega)]
      dsimp only
      have e1 : (J (if (orR T l r).testBit h = true then 1 else 0)) <<< (J r &&& 31) = J (((if (orR T l r).testBit h = true then 1 else 0) * 2 ^ r : Nat) : Int) := by
        by_cases c : (orR T l r).testBit h = true
        · rw [if_pos c, if_pos c]; exact J_shl 1 (by omega)
        · rw [if_neg c, if_neg c]; exact J_shl 0 (by omega)
      rw [e1, J_or, ← fs, show (1 : Int32) = J 1 from rfl, J_add, J_suc]
      exact ih f (r + 1) (by omega) (by omega)
  have fbit : ∀ k j, (fb k).testBit j = true ↔ j < k ∧ (orR T l j).testBit h = true := by
    intro k
    induction k with
    | zero => intro j; show (0 : Nat).testBit j = true ↔ _; simp
    | succ k ih =>
      intro j
      rw [fs, Nat.testBit_or, Bool.or_eq_true, ih]
      have e : ((if (orR T l k).testBit h = true then 1 else 0) * 2 ^ k).testBit j = true ↔ j = k ∧ (orR T l k).testBit h = true := by
        by_cases c : (orR T l k).testBit h = true
        · rw [if_pos c, Nat.one_mul, Nat.testBit_two_pow, decide_eq_true_eq]
          exact ⟨fun h => ⟨h.symm, c⟩, fun h => h.1.symm⟩
        · rw [if_neg c, Nat.zero_mul]; simp [c]
      rw [e]
      constructor
      · rintro (⟨a, b⟩ | ⟨a, b⟩)
        · exact ⟨by omega, b⟩
        · exact ⟨by omega, by rw [a]; exact b⟩
      · rintro ⟨a, b⟩
        by_cases c : j = k
        · exact Or.inr ⟨c, by rw [← c]; exact b⟩
        · exact Or.inl ⟨by omega, b⟩
  have hend : fb 5 = mskV l h := by
    apply Nat.eq_of_testBit_eq
    intro j
    have hm : (mskV l h).testBit j = true ↔ ∃ L, L ∈ l ∧ rlO L h = j := by
      unfold mskV; rw [mskV_bit]; simp
    have : (fb 5).testBit j = true ↔ (mskV l h).testBit j = true := by
      rw [fbit, hm]
      constructor
      · rintro ⟨a, b⟩
        unfold orR at b
        by_cases c : j < tR T
        · rw [if_pos c, orS_bit] at b
          obtain ⟨L, h1, h2⟩ := b
          obtain ⟨i, hi, e⟩ := List.getElem_of_mem h2
          exact ⟨L, h1, (rlO_eq (hv L h1) c hi (by rw [gd_el _ hi, e])).1⟩
        · rw [if_neg c] at b; simp at b
      · rintro ⟨L, h1, h2⟩
        obtain ⟨q, i, hq, hi, e, e1, -⟩ := rlO_ex (hv L h1) hh
        have : j = q := by omega
        subst this
        refine ⟨by omega, ?_⟩
        unfold orR
        rw [if_pos hq, orS_bit]
        exact ⟨L, h1, by rw [← e]; exact gd_mem 0 hi⟩
    cases e : (fb 5).testBit j with
    | true => rw [this.mp e]
    | false =>
      cases e2 : (mskV l h).testBit j with
      | false => rfl
      | true => rw [this.mpr e2] at e; cases e
  have := key 5 rhFU 0 (by omega) (by have := FU_big; omega)
  rw [f_X6_railsOf, ← hend]
  exact this
theorem c_fits (hG : GK Γ) {M : rhM} (hC : CR M) (hT : C3 M t t' T) (hw : TWf T) (hRH : 0 < tH T → 0 < tR T) {sg : List Si} (h10 : C10 M sg) (hSg : SgW T sg) (h13 : C13 M T sg) {n : Int} (n1 : -2147483648 ≤ n) (n2 : n < 2147483648) {k : Int} (k1 : -2147483648 ≤ k) (k2 : k < 2147483648) : wp (f_X11_fits Γ M 1 (J n) (J k)) (fun x => x.1 = J (fitV T sg n k) ∧ KP [0, 13] M x.2 ∧ KC M x.2 ∧ C13 x.2 T sg) := by
  unfold fitV
  rw [f_X11_fits]
  by_cases c1 : n < 0
  · rw [wp_ite_t (by rw [show (0 : Int32) = J 0 from rfl, J_lt (by omega) (by omega) (by omega) (by omega)]; exact c1), wp_some, if_neg (by omega)]
    exact ⟨rfl, KP.refl _ _, KC.refl _, h13⟩
  rw [wp_ite_f (by rw [show (0 : Int32) = J 0 from rfl, J_lt (by omega) (by omega) (by omega) (by omega)]; exact c1)]
  by_cases c2 : 3 < n
  · rw [wp_ite_t (by rw [show (3 : Int32) = J 3 from rfl, J_lt (by omega) (by omega) (by omega) (by omega)]; exact c2), wp_some, if_neg (by omega)]
    exact ⟨rfl, KP.refl _ _, KC.refl _, h13⟩
  obtain ⟨m, rfl⟩ : ∃ m : Nat, n = m := ⟨n.toNat, by omega⟩
  rw [wp_ite_f (by rw [show (3 : Int32) = J 3 from rfl, J_lt (by omega) (by omega) (by omega) (by omega)]; exact c2), wp_ck_t (GKk1 hG), CR1_14 hC, wp_ck_t (GKk55 hG), hT.2.1, if_pos (by omega), Int.toNat_natCast, wp_bind]
  refine (c_scount hG hC hT hw hRH h10 hSg h13 (show m ≤ 3 by omega) k1 k2).mono (fun M' q => ?_)
  obtain ⟨q1, q2, q3, q4, q5⟩ := q
  have hC' := hC.kp q1 (by decide)
  rw [CR1_14 hC', wp_ck_t (GKk55 hG), CR55_13 hC', wp_ck_t (GKk66 hG), wp_ck_t (by rw [GKl66 hG, J_toInt (by omega) (by omega)]; omega), J_clamp (by omega) (by omega), Int.toNat_natCast, wp_some, q4]
  exact ⟨rfl, q1, q2, q3⟩
theorem c_can (hG : GK Γ) {M : rhM} (hC : CR M) (hT : C3 M t t' T) (hw : TWf T) (hRH : 0 < tH T → 0 < tR T) {sg : List Si} (h10 : C10 M sg) (hSg : SgW T sg) (h13 : C13 M T sg) {h : Int} (h1 : -2147483648 ≤ h) (h2 : h < 2147483648) {n : Int} (n1 : -2147483648 ≤ n) (n2 : n < 2147483648) {k : Int} (k1 : -2147483648 ≤ k) (k2 : k < 2147483648) : wp (f_X11_can Γ M 1 (J h) (J n) (J k)) (fun x => x.1 = J (canV T sg h n k) ∧ KP [0, 13] M x.2 ∧ KC M x.2 ∧ C13 x.2 T sg) := by
  unfold canV
  rw [f_X11_can, wp_ck_t (GKk1 hG), c_isHouse hG hC hT hw h1 h2, wp_bind, wp_some]
  by_cases c0 : ¬ (0 ≤ h ∧ h < tH T)
  · rw [bi_f c0, wp_ite_t rfl, wp_some, if_neg (by omega)]
    exact ⟨rfl, KP.refl _ _, KC.refl _, h13⟩
  have c0 := Classical.not_not.mp c0
  rw [bi_t c0, wp_ite_f (by decide)]
  by_cases c1 : n < 0
  · rw [wp_ite_t (by rw [show (0 : Int32) = J 0 from rfl, J_lt (by omega) (by omega) (by omega) (by omega)]; exact c1), wp_some, if_neg (by omega)]
    exact ⟨rfl, KP.refl _ _, KC.refl _, h13⟩
  rw [wp_ite_f (by rw [show (0 : Int32) = J 0 from rfl, J_lt (by omega) (by omega) (by omega) (by omega)]; exact c1)]
  by_cases c2 : 3 < n
  · rw [wp_ite_t (by rw [show (3 : Int32) = J 3 from rfl, J_lt (by omega) (by omega) (by omega) (by omega)]; exact c2), wp_some, if_neg (by omega)]
    exact ⟨rfl, KP.refl _ _, KC.refl _, h13⟩
  obtain ⟨m, rfl⟩ : ∃ m : Nat, n = m := ⟨n.toNat, by omega⟩
  obtain ⟨g, rfl⟩ : ∃ g : Nat, h = g := ⟨h.toNat, by omega⟩
  rw [wp_ite_f (by rw [show (3 : Int32) = J 3 from rfl, J_lt (by omega) (by omega) (by omega) (by omega)]; exact c2), CR1_14 hC, wp_ck_t (GKk55 hG), hT.2.1, if_pos (by omega), Int.toNat_natCast, Int.toNat_natCast, wp_bind]
  refine (c_scount hG hC hT hw hRH h10 hSg h13 (show m ≤ 3 by omega) k1 k2).mono (fun M' q => ?_)
  obtain ⟨q1, q2, q3, q4, q5⟩ := q
  have hC' := hC.kp q1 (by decide)
  rw [CR1_14 hC', wp_ck_t (GKk55 hG), c_railsOf hG hC' hw (wk_WA m 0 _ (fst_WA T hw)) (by omega) (by omega) q5, wp_bind, wp_some, wp_some]
  exact ⟨rfl, q1, q2, q3⟩
end
