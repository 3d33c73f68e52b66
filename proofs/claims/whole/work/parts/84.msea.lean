/-! THE REFERENCE'S SEARCH -/
theorem J_inj {a b : Nat} (ha : a < 2147483648) (hb : b < 2147483648) (h : J a = J b) : a = b := by
  have := congrArg Int32.toInt h
  rw [J_toInt (by omega) (by omega), J_toInt (by omega) (by omega)] at this; omega
theorem rl_flat {L : Ar} {r : Nat} (h : r < L.length) : rl L r = ((fl [] L).drop (cum L r)).take (cum L (r + 1) - cum L r) := by
  obtain ⟨e, e2, -⟩ := fl_split [] h
  rw [e, List.nil_append, ← e2, List.drop_left, cum_succ, e2, show cum L r + (rl L r).length - cum L r = (rl L r).length by omega, List.take_left]
theorem RA_inj {M : rhM} {a oa b ob R H : Nat} {A B : Ar} (hA : WA R H A) (hB : WA R H B) (hH : H ≤ 8) (h1 : RA M a oa b ob A) (h2 : RA M a oa b ob B) : A = B := by
  have e1 : fl [] A = fl [] B := by
    apply List.ext_getElem?
    intro i
    by_cases c : i < H
    · have x := Sg_get h1.1 (show i < (fl [] A).length by rw [hA.len]; exact c)
      have y := Sg_get h2.1 (show i < (fl [] B).length by rw [hB.len]; exact c)
      have e := J_inj (by have := hA.gd c; omega) (by have := hB.gd c; omega) (x.symm.trans y)
      rw [List.getD_eq_getElem?_getD, List.getD_eq_getElem?_getD, List.getElem?_eq_getElem (show i < (fl [] A).length by rw [hA.len]; exact c), List.getElem?_eq_getElem (show i < (fl [] B).length by rw [hB.len]; exact c)] at e
      rw [List.getElem?_eq_getElem (show i < (fl [] A).length by rw [hA.len]; exact c), List.getElem?_eq_getElem (show i < (fl [] B).length by rw [hB.len]; exact c)]
      exact congrArg some e
    · rw [List.getElem?_eq_none (by rw [hA.len]; omega), List.getElem?_eq_none (by rw [hB.len]; omega)]
  have e2 : ∀ r, r ≤ R → cum A r = cum B r := by
    intro r hr
    cases r with
    | zero => rfl
    | succ r =>
      have x := h1.2 r (by rw [hA.1]; omega)
      have y := h2.2 r (by rw [hB.1]; omega)
      exact J_inj (by have := hA.le hr; omega) (by have := hB.le hr; omega) (x.symm.trans y)
  apply List.ext_getElem?
  intro r
  by_cases c : r < R
  · have g : ∀ X : Ar, X.length = R → X[r]? = some (rl X r) := fun X hX => by rw [rl, List.getD_eq_getElem?_getD, List.getElem?_eq_getElem (by rw [hX]; exact c)]; rfl
    rw [g A hA.1, g B hB.1, rl_flat (by rw [hA.1]; exact c), rl_flat (by rw [hB.1]; exact c), e1, e2 r (by omega), e2 (r + 1) (by omega)]
  · rw [List.getElem?_eq_none (by rw [hA.1]; omega), List.getElem?_eq_none (by rw [hB.1]; omega)]
theorem WA.uniq {R H : Nat} {L : Ar} (w : WA R H L) {h a b : Nat} (ha : a < R) (hb : b < R) (h1 : h ∈ rl L a) (h2 : h ∈ rl L b) : a = b := by
  obtain ⟨i, hi, e1⟩ := List.getElem_of_mem h1
  obtain ⟨j, hj, e2⟩ := List.getElem_of_mem h2
  have nd : (fl [] L).Nodup := w.2.nodup_iff.mpr List.nodup_range
  have g1 := fl_get0 hi
  have g2 := fl_get0 hj
  have c1 := w.le (r := a + 1) (by omega)
  have c2 := w.le (r := b + 1) (by omega)
  rw [cum_succ] at c1 c2
  have k1 : cum L a + i < (fl [] L).length := by rw [w.len]; omega
  have k2 : cum L b + j < (fl [] L).length := by rw [w.len]; omega
  have f1 : (fl [] L)[cum L a + i]? = some h := by
    rw [List.getD_eq_getElem?_getD, List.getD_eq_getElem?_getD, List.getElem?_eq_getElem k1, List.getElem?_eq_getElem hi, e1] at g1
    rw [List.getElem?_eq_getElem k1]; exact congrArg some g1
  have f2 : (fl [] L)[cum L b + j]? = some h := by
    rw [List.getD_eq_getElem?_getD, List.getD_eq_getElem?_getD, List.getElem?_eq_getElem k2, List.getElem?_eq_getElem hj, e2] at g2
    rw [List.getElem?_eq_getElem k2]; exact congrArg some g2
  have := (List.getElem?_inj k1 nd).mp (f1.trans f2.symm)
  rcases Nat.lt_trichotomy a b with c | c | c
  · have := cum_mono L (show a + 1 ≤ b by omega); rw [cum_succ] at this; omega
  · exact c
  · have := cum_mono L (show b + 1 ≤ a by omega); rw [cum_succ] at this; omega
def ME (M : rhM) (md : Md) : Prop := M.1 102 61 = J md.1 ∧ md.1 ≤ 2 ∧ (md.1 = 0 → M.1 102 53 = J md.2.1.length ∧ Sg (M.1 136) 0 md.2.1 ∧ (∀ z, z ∈ md.2.1 → z < 8) ∧ md.2.1.length ≤ 8) ∧ (md.1 = 1 → M.1 102 62 = J md.2.2 ∧ md.2.2 < 8)
section
variable {Γ : rhG} {M : rhM} {b : Nat} {T : Tn} {g lb : Int} {L : Ar} {md : Md}
theorem m_end58 (hG : GK Γ) (hR : MR M) {N : Nat} (h53 : M.1 102 53 = J N) (hN : N ≤ 8) : ∀ (gl : List Nat) (F : List Nat) (n k : Nat), Sg (M.1 136) k gl → Sg (M.1 128) k F → gl.length ≤ F.length → (∀ z, z ∈ gl → z < 8) → (∀ z, z ∈ F → z < 8) → k + gl.length = N → gl.length < n →
    f_X12_isEnd_58 Γ M n 102 (J k) = some (bi (gl <+: F)) := by
  intro gl
  induction gl with
  | nil =>
    intro F n k hs hf hle h8 hF8 hk hn
    obtain ⟨n, rfl⟩ : ∃ k, n = k + 1 := ⟨n - 1, by simp only [List.length_nil] at hn; omega⟩
    simp only [List.length_nil] at hk
    rw [f_X12_isEnd_58, rhck_t (GKk102 hG), h53, if_neg (by rw [J_lt (by omega) (by omega) (by omega) (by omega)]; omega), bi_t (List.nil_prefix)]
  | cons x gl ih =>
    intro F n k hs hf hle h8 hF8 hk hn
    rw [List.length_cons] at hk hn hle
    obtain ⟨n, rfl⟩ : ∃ k, n = k + 1 := ⟨n - 1, by omega⟩
    cases F with
    | nil => simp at hle
    | cons y F =>
      rw [List.length_cons] at hle
      have hx := h8 x List.mem_cons_self
      have hy := hF8 y List.mem_cons_self
      rw [f_X12_isEnd_58, rhck_t (GKk102 hG), h53, if_pos (by rw [J_lt (by omega) (by omega) (by omega) (by omega)]; omega), MRf39 hR, rhck_t (GKk128 hG), GKl128 hG, J_toInt (by omega) (by omega), rhck_t (by omega), MRf52 hR, rhck_t (GKk136 hG), GKl136 hG, rhck_t (by omega), J_clamp (by omega) (by omega), Int.toNat_natCast, hf.1, hs.1]
      by_cases e : y = x
      · rw [if_pos (by rw [e]), show (1 : Int32) = J 1 from rfl, J_add, J_suc, ih F n (k + 1) hs.2 hf.2 (by omega) (fun z hz => h8 z (List.mem_cons_of_mem _ hz)) (fun z hz => hF8 z (List.mem_cons_of_mem _ hz)) (by omega) (by omega)]
        congr 2
        rw [List.cons_prefix_cons, e]; simp
      · rw [if_neg (by rw [J_eq (by omega) (by omega) (by omega) (by omega)]; omega), bi_f (by rw [List.cons_prefix_cons]; exact fun h => e h.1.symm)]
theorem m_free16 (hG : GK Γ) (hR : MR M) {r E h : Nat} (hr : r < 6) (hE : M.1 129 r = J E) (hE8 : E ≤ 8) (hh : h < 8) (K1 : Nat → Int32 → Option Int32) (K2 : Nat → Int32 → Int32 → Option Int32) : ∀ (l : List Nat) (n p : Nat), Sg (M.1 128) p l → p + l.length = E → (∀ z, z ∈ l → z < 8) → l.length < n →
    f_X12_isFree_16 K1 K2 Γ M n 102 (J h) (J r) (J p) = if h ∈ l then K1 102 (J r) else K2 102 (J h) (J r) := by
  intro l
  induction l with
  | nil =>
    intro n p hs he hm hn
    obtain ⟨n, rfl⟩ : ∃ k, n = k + 1 := ⟨n - 1, by simp only [List.length_nil] at hn; omega⟩
    simp only [List.length_nil] at he
    rw [f_X12_isFree_16, rhck_t (GKk102 hG), MRf40 hR, rhck_t (GKk129 hG), GKl129 hG, J_toInt (by omega) (by omega), rhck_t (by omega), J_clamp (by omega) (by omega), Int.toNat_natCast, hE, if_neg (by rw [J_lt (by omega) (by omega) (by omega) (by omega)]; omega)]
    simp
  | cons x l ih =>
    intro n p hs he hm hn
    rw [List.length_cons] at he hn
    obtain ⟨n, rfl⟩ : ∃ k, n = k + 1 := ⟨n - 1, by omega⟩
    have hx := hm x List.mem_cons_self
    rw [f_X12_isFree_16, rhck_t (GKk102 hG), MRf40 hR, rhck_t (GKk129 hG), GKl129 hG, J_toInt (show -2147483648 ≤ (r : Int) by omega) (by omega), rhck_t (by omega), J_clamp (show -2147483648 ≤ (r : Int) by omega) (by omega), Int.toNat_natCast, hE, if_pos (by rw [J_lt (by omega) (by omega) (by omega) (by omega)]; omega), MRf39 hR, rhck_t (GKk128 hG), GKl128 hG, J_toInt (by omega) (by omega), rhck_t (by omega), J_clamp (by omega) (by omega), Int.toNat_natCast, hs.1]
    by_cases e : x = h
    · rw [if_pos (by rw [e]), if_pos (by rw [e]; exact List.mem_cons_self)]
    · rw [if_neg (by rw [J_eq (by omega) (by omega) (by omega) (by omega)]; omega), show (1 : Int32) = J 1 from rfl, J_add, J_suc, ih n (p + 1) hs.2 (by omega) (fun z hz => hm z (List.mem_cons_of_mem _ hz)) (by omega)]
      have : (h ∈ x :: l) = (h ∈ l) := by simp [Ne.symm e]
      simp only [this]
theorem pA_rl {R H h : Nat} {L : Ar} (w : WA R H L) : pA h L ↔ ∀ r, r < R → h ∈ rl L r → (rl L r).length ≤ 1 := by
  unfold pA
  constructor
  · intro a r hr hm
    refine a _ ?_ hm
    rw [rl, List.getD_eq_getElem?_getD, List.getElem?_eq_getElem (by rw [w.1]; exact hr)]; exact List.getElem_mem _
  · intro a x hx hm
    obtain ⟨r, hr, e⟩ := List.getElem_of_mem hx
    have e2 : rl L r = x := by rw [rl, List.getD_eq_getElem?_getD, List.getElem?_eq_getElem hr]; exact e
    have := a r (by rw [← w.1]; exact hr) (by rw [e2]; exact hm)
    rw [e2] at this; exact this
theorem m_isFree (hG : GK Γ) (hR : MR M) (hT : TM M b T g lb) (hw : TWf T) (hA : RA M 128 0 129 0 L) (wL : WA (tR T) (tH T) L) {h : Nat} (hh : h < 8) : f_X12_isFree Γ M 102 (J h) = some (bi (pA h L)) := by
  have hRM := m_railMany hG hR hT
  have w1 := hw.1
  have w2 := hw.2.1
  have key : ∀ (d n r : Nat), r + d = tR T → d < n → (∀ r', r' < r → h ∉ rl L r') → f_X12_isFree_2 (f_X12_isFree_36 Γ M) Γ M n 102 (J h) (J r) = some (bi (pA h L)) := by
    intro d
    induction d with
    | zero =>
      intro n r hd hn hI
      obtain ⟨n, rfl⟩ : ∃ k, n = k + 1 := ⟨n - 1, by omega⟩
      rw [f_X12_isFree_2, rhck_t (GKk102 hG), hRM, Option.bind_some, if_neg (by rw [J_lt (by omega) (by omega) (by omega) (by omega)]; omega), bi_t]
      rw [pA_rl wL]
      intro r' hr' hm; exact absurd hm (hI r' (by omega))
    | succ d ih =>
      intro n r hd hn hI
      obtain ⟨n, rfl⟩ : ∃ k, n = k + 1 := ⟨n - 1, by omega⟩
      have hB := m_beginOf hG hR hA (r := r) (by rw [wL.1]; omega) (by omega)
      have hE := hA.2 r (by rw [wL.1]; omega)
      rw [Nat.zero_add] at hE
      have hs := Sg_rl hA.1 (r := r) (by rw [wL.1]; omega)
      rw [Nat.zero_add] at hs
      have hle := wL.le (r := r + 1) (by omega)
      have hc := cum_succ L r
      rw [f_X12_isFree_2, rhck_t (GKk102 hG), hRM, Option.bind_some, if_pos (by rw [J_lt (by omega) (by omega) (by omega) (by omega)]; omega), hB, Option.bind_some, m_free16 hG hR (by omega) hE (by omega) hh _ _ (rl L r) rhFU (cum L r) hs (by omega) (fun z hz => by have := wL.lt.mp (rl_sub hz); omega) (by have := FU_big; omega)]
      by_cases c : h ∈ rl L r
      · rw [if_pos c, f_X12_isFree_36, rhck_t (GKk102 hG), MRf40 hR, rhck_t (GKk129 hG), GKl129 hG, J_toInt (by omega) (by omega), rhck_t (by omega), hB, Option.bind_some, J_clamp (by omega) (by omega), Int.toNat_natCast, hE, J_sub]
        have hpos : 0 < (rl L r).length := List.length_pos_of_mem c
        have hiff : pA h L ↔ (rl L r).length = 1 := by
          rw [pA_rl wL]
          constructor
          · intro a; have := a r (by omega) c; omega
          · intro a r' hr' hm
            rw [wL.uniq hr' (show r < tR T by omega) hm c]; omega
        by_cases e : (rl L r).length = 1
        · rw [if_pos (by rw [show (1 : Int32) = J 1 from rfl]; congr 1; omega), bi_t (hiff.mpr e)]
        · rw [if_neg (by rw [show (1 : Int32) = J 1 from rfl, J_eq (by omega) (by omega) (by omega) (by omega)]; omega), bi_f (fun h => e (hiff.mp h))]
      · rw [if_neg c, f_X12_isFree_64, show (1 : Int32) = J 1 from rfl, J_add, J_suc]
        exact ih n (r + 1) (by omega) (by omega) (fun r' hr' => by
          by_cases e : r' = r
          · rw [e]; exact c
          · exact hI r' (by omega))
  rw [f_X12_isFree]
  exact key (tR T) rhFU 0 (by omega) (by have := FU_big; omega) (fun r' h => by omega)
theorem m_isEnd (hG : GK Γ) (hR : MR M) (hT : TM M b T g lb) (hw : TWf T) (hA : RA M 128 0 129 0 L) (wL : WA (tR T) (tH T) L) (hE : ME M md) : f_X12_isEnd Γ M 102 = some (bi (pM md L)) := by
  obtain ⟨e61, emd, e0, e1⟩ := hE
  have hRM := m_railMany hG hR hT
  have w1 := hw.1
  have w2 := hw.2.1
  have hmd : md.1 = 0 ∨ md.1 = 1 ∨ md.1 = 2 := by omega
  rw [f_X12_isEnd, rhck_t (GKk102 hG), e61]
  rcases hmd with e | e | e
  · obtain ⟨h53, h136, hg8, hgl⟩ := e0 e
    have ep : pM md L = (md.2.1 <+: rl L 0) := by unfold pM; rw [if_pos e]
    rw [ep]
    rw [if_neg (by rw [e]; decide), if_neg (by rw [e]; decide), h53]
    have hflat : ∀ z, z ∈ fl [] L → z < 8 := fun z hz => by have := wL.lt.mp hz; omega
    by_cases c0 : md.2.1.length = 0
    · rw [if_neg (by rw [show (0 : Int32) = J 0 from rfl, J_lt (by omega) (by omega) (by omega) (by omega)]; omega), f_X12_isEnd_56, show (0 : Int32) = J ((0 : Nat) : Int) from rfl, m_end58 hG hR h53 hgl md.2.1 (fl [] L) rhFU 0 h136 hA.1 (by omega) hg8 hflat (by omega) (by have := FU_big; omega)]
      have : md.2.1 = [] := List.length_eq_zero_iff.mp c0
      rw [this, bi_t List.nil_prefix, bi_t List.nil_prefix]
    · rw [if_pos (by rw [show (0 : Int32) = J 0 from rfl, J_lt (by omega) (by omega) (by omega) (by omega)]; omega), hRM, Option.bind_some]
      by_cases cR : tR T = 0
      · rw [if_pos (by rw [cR]; rfl)]
        have hl0 : rl L 0 = [] := by
          have := wL.1
          rw [List.length_eq_zero_iff.mp (show L.length = 0 by omega), rl_nil]
        rw [bi_f]
        intro h; have := h.length_le; rw [hl0] at this; simp at this; exact c0 (by rw [this]; rfl)
      · have hE0 := hA.2 0 (by rw [wL.1]; omega)
        rw [Nat.zero_add] at hE0
        have hc1 : cum L (0 + 1) = (rl L 0).length := by rw [cum_succ]; simp [cum]
        rw [hc1] at hE0
        have hrl := wL.rl_len (r := 0) (by omega)
        rw [if_neg (by rw [show (0 : Int32) = J 0 from rfl, J_eq (by omega) (by omega) (by omega) (by omega)]; omega), MRf40 hR, rhck_t (GKk129 hG), GKl129 hG, rhck_t (by decide), show (0 : Int32).toNatClampNeg = 0 from rfl, hE0]
        by_cases c2 : (rl L 0).length < md.2.1.length
        · rw [if_pos (by rw [J_lt (by omega) (by omega) (by omega) (by omega)]; omega), bi_f]
          intro h; have := h.length_le; omega
        · have hsplit := (fl_split [] (L := L) (r := 0) (by rw [wL.1]; omega)).1
          have hpre : md.2.1 <+: fl [] L ↔ md.2.1 <+: rl L 0 := by
            rw [hsplit]
            simp only [List.take_zero, fl_nil, List.nil_append]
            constructor
            · intro h
              exact List.prefix_of_prefix_length_le h (List.prefix_append _ _) (by omega)
            · intro h; exact h.trans (List.prefix_append _ _)
          have hfl := wL.len
          have hcl := wL.le (r := 1) (by omega)
          rw [if_neg (by rw [J_lt (by omega) (by omega) (by omega) (by omega)]; omega), f_X12_isEnd_56, show (0 : Int32) = J ((0 : Nat) : Int) from rfl, m_end58 hG hR h53 hgl md.2.1 (fl [] L) rhFU 0 h136 hA.1 (by rw [show (1 : Nat) = 0 + 1 from rfl, hc1] at hcl; omega) hg8 hflat (by omega) (by have := FU_big; omega), hpre]
  · obtain ⟨h62, hh⟩ := e1 e
    have ep : pM md L = pA md.2.2 L := by unfold pM; rw [if_neg (by omega), if_pos e]
    have hF := m_isFree hG hR hT hw hA wL hh
    have h01 : bi (pA md.2.2 L) = 0 ∨ bi (pA md.2.2 L) = 1 := by
      by_cases c : pA md.2.2 L
      · exact Or.inr (bi_t c)
      · exact Or.inl (bi_f c)
    rw [if_neg (by rw [e]; decide), if_pos (by rw [e]; rfl), h62, hF, Option.bind_some, rhck_t h01, ep]
  · rw [if_pos (by rw [e]; rfl), bi_f]
    unfold pM; rw [if_neg (by omega), if_neg (by omega)]; exact id
end
