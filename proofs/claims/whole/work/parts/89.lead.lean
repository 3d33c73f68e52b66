/-! WHICH ROW IS AHEAD -/
abbrev Wn : Type := Ar × Ky × Int × Nat
def PWt (N : List Wn) : Prop := ∀ (j : Nat) (q : Wn), N[j]? = some q → q.2.1.2 = [] ∨ ∃ (i : Nat) (pq : Wn), N[i]? = some pq ∧ q.2.2.1 = (i : Int) ∧ q.2.1.2 = q.2.2.2 :: pq.2.1.2
def FNw (M : rhM) (F : Nat) (N : List Wn) : Prop := ∀ (j : Nat) (q : Wn), N[j]? = some q → M.1 (F + 2) j = J q.2.2.1 ∧ M.1 (F + 3) j = J q.2.2.2 ∧ M.1 (F + 4) j = J q.2.1.2.length ∧ q.2.2.2 < 1000 ∧ q.2.1.2.length ≤ 60480
def ltc (c d : List Nat) : Prop := c.length < d.length ∨ (c.length = d.length ∧ lxl c d)
section
variable {Γ : rhG} {M : rhM} {F cp tln : Nat} {N : List Wn}
theorem bi_01 (p : Prop) : bi p = 0 ∨ bi p = 1 := by
  by_cases c : p
  · exact Or.inr (bi_t c)
  · exact Or.inl (bi_f c)
theorem c_ahead10 (hS : FSh Γ M F cp tln) (hcp : cp ≤ 60480) (hNc : N.length ≤ cp) (hP : PWt N) (hF : FNw M F N) : ∀ (d n j k : Nat) (q p : Wn) (v : Int32), (v = 0 ∨ v = 1) → N[j]? = some q → N[k]? = some p → q.2.1.2.length = d → p.2.1.2.length = d → d < n →
    ∃ r, f_X0_isAhead_10 Γ M n F (J j) (J k) v (J d) = some r ∧ (q.2.1.2 = p.2.1.2 → r = v) ∧ (q.2.1.2 ≠ p.2.1.2 → r = bi (lxl q.2.1.2 p.2.1.2)) := by
  obtain ⟨s0, -, ⟨s2, n2⟩, ⟨s3, n3⟩, -, -, r1, r2, r3, r4, r5⟩ := hS
  intro d
  induction d with
  | zero =>
    intro n j k q p v hv hq hp h1 h2 hn
    obtain ⟨n, rfl⟩ : ∃ k, n = k + 1 := ⟨n - 1, by omega⟩
    refine ⟨v, ?_, fun _ => rfl, fun h => absurd ?_ h⟩
    · rw [f_X0_isAhead_10, if_neg (by rw [show (0 : Int32) = J 0 from rfl, J_lt (by omega) (by omega) (by omega) (by omega)]; omega), rhck_t hv]
    · rw [List.length_eq_zero_iff.mp h1, List.length_eq_zero_iff.mp h2]
  | succ d ih =>
    intro n j k q p v hv hq hp h1 h2 hn
    obtain ⟨n, rfl⟩ : ∃ k, n = k + 1 := ⟨n - 1, by omega⟩
    have hjl := (List.getElem?_eq_some_iff.mp hq).1
    have hkl := (List.getElem?_eq_some_iff.mp hp).1
    obtain ⟨a2, a3, a4, a5, a6⟩ := hF j q hq
    obtain ⟨b2, b3, b4, b5, b6⟩ := hF k p hp
    rw [f_X0_isAhead_10, if_pos (by rw [show (0 : Int32) = J 0 from rfl, J_lt (by omega) (by omega) (by omega) (by omega)]; omega)]
    by_cases e : j = k
    · subst e
      rw [hq] at hp
      cases hp
      exact ⟨v, by rw [if_pos rfl, rhck_t hv], fun _ => rfl, fun h => absurd rfl h⟩
    · rw [if_neg (by rw [J_eq (by omega) (by omega) (by omega) (by omega)]; omega), rhck_t s0, r3, rhck_t s3, n3, J_toInt (by omega) (by omega), rhck_t (by omega), J_toInt (by omega) (by omega), rhck_t (by omega), J_clamp (by omega) (by omega), J_clamp (by omega) (by omega), Int.toNat_natCast, Int.toNat_natCast, a3, b3]
      rcases hP j q hq with h | ⟨i, pq, g1, g2, g3⟩
      · rw [h] at h1; simp at h1
      rcases hP k p hp with h | ⟨i', pp, g1', g2', g3'⟩
      · rw [h] at h2; simp at h2
      have hi := (List.getElem?_eq_some_iff.mp g1).1
      have hi' := (List.getElem?_eq_some_iff.mp g1').1
      rw [g3, List.length_cons] at h1
      rw [g3', List.length_cons] at h2
      have e56 : ∀ v' : Int32, f_X0_isAhead_56 (f_X0_isAhead_10 Γ M n) Γ M F (J j) (J k) v' (J ((d + 1 : Nat) : Int)) = f_X0_isAhead_10 Γ M n F (J i) (J i') v' (J d) := by
        intro v'
        rw [f_X0_isAhead_56, rhck_t s0, r2, rhck_t s2, n2, J_toInt (by omega) (by omega), rhck_t (by omega), J_toInt (by omega) (by omega), rhck_t (by omega), J_clamp (by omega) (by omega), J_clamp (by omega) (by omega), Int.toNat_natCast, Int.toNat_natCast, a2, b2, g2, g2', show (-1 : Int32) = J (-1) from rfl, J_add, show ((d + 1 : Nat) : Int) + -1 = (d : Int) by omega]
      have fin : ∀ v' : Int32, (v' = 0 ∨ v' = 1) → (q.2.2.2 = p.2.2.2 → v' = v) → (q.2.2.2 ≠ p.2.2.2 → v' = bi (q.2.2.2 < p.2.2.2)) → ∃ r, f_X0_isAhead_10 Γ M n F (J i) (J i') v' (J d) = some r ∧ (q.2.1.2 = p.2.1.2 → r = v) ∧ (q.2.1.2 ≠ p.2.1.2 → r = bi (lxl q.2.1.2 p.2.1.2)) := by
        intro v' hv' x1 x2
        obtain ⟨r, y1, y2, y3⟩ := ih n i i' pq pp v' hv' g1 g1' (by omega) (by omega) (by omega)
        refine ⟨r, y1, fun h => ?_, fun h => ?_⟩
        · rw [g3, g3'] at h
          simp only [List.cons.injEq] at h
          rw [y2 h.2]; exact x1 h.1
        · rw [g3, g3'] at h ⊢
          by_cases c : pq.2.1.2 = pp.2.1.2
          · have hc : q.2.2.2 ≠ p.2.2.2 := fun e => h (by rw [e, c])
            rw [y2 c, x2 hc]
            congr 1
            rw [lxl, c]
            exact propext ⟨fun h => Or.inr ⟨rfl, h⟩, fun h => h.elim (fun h => absurd h (lxl_irr _)) (fun h => h.2)⟩
          · rw [y3 c]
            congr 1
            rw [lxl]
            exact propext ⟨fun h => Or.inl h, fun h => h.elim id (fun h => absurd h.1 c)⟩
      by_cases c1 : q.2.2.2 = p.2.2.2
      · rw [if_pos (by rw [c1]), e56]
        exact fin v hv (fun _ => rfl) (fun h => absurd c1 h)
      · rw [if_neg (by rw [J_eq (by omega) (by omega) (by omega) (by omega)]; omega)]
        by_cases c2 : q.2.2.2 < p.2.2.2
        · rw [if_pos (by rw [J_lt (by omega) (by omega) (by omega) (by omega)]; omega), f_X0_isAhead_55, e56]
          exact fin 1 (Or.inr rfl) (fun h => absurd h c1) (fun _ => (bi_t c2).symm)
        · rw [if_neg (by rw [J_lt (by omega) (by omega) (by omega) (by omega)]; omega), f_X0_isAhead_55, e56]
          exact fin 0 (Or.inl rfl) (fun h => absurd h c1) (fun _ => (bi_f c2).symm)
theorem c_leads {S : Nat} (hk : Γ.2.2.1 S = 6) (f2 : M.2.2 S 2 = F) (hS : FSh Γ M F cp tln) (hcp : cp ≤ 60480) (hNc : N.length ≤ cp) (hP : PWt N) (hF : FNw M F N) {j k : Nat} {q p : Wn} (hq : N[j]? = some q) (hp : N[k]? = some p) : f_X5_leadsAhead Γ M S (J j) (J k) = some (bi (ltc q.2.1.2 p.2.1.2)) := by
  have hS0 := hS
  obtain ⟨s0, -, -, -, ⟨s4, n4⟩, -, r1, r2, r3, r4, r5⟩ := hS
  have hjl := (List.getElem?_eq_some_iff.mp hq).1
  have hkl := (List.getElem?_eq_some_iff.mp hp).1
  obtain ⟨a2, a3, a4, a5, a6⟩ := hF j q hq
  obtain ⟨b2, b3, b4, b5, b6⟩ := hF k p hp
  rw [f_X5_leadsAhead, rhck_t hk, f2, rhck_t s0, r4, rhck_t s4, n4, J_toInt (by omega) (by omega), rhck_t (by omega), J_toInt (by omega) (by omega), rhck_t (by omega), J_clamp (by omega) (by omega), J_clamp (by omega) (by omega), Int.toNat_natCast, Int.toNat_natCast, a4, b4]
  unfold ltc
  by_cases c : q.2.1.2.length = p.2.1.2.length
  · obtain ⟨r, h1, h2, h3⟩ := c_ahead10 hS0 hcp hNc hP hF q.2.1.2.length rhFU j k q p 0 (Or.inl rfl) hq hp rfl c.symm (by have := FU_big; omega)
    have hr : r = bi (lxl q.2.1.2 p.2.1.2) := by
      by_cases e : q.2.1.2 = p.2.1.2
      · rw [h2 e, bi_f (by rw [e]; exact lxl_irr _)]
      · exact h3 e
    have hah : f_X0_isAhead Γ M F (J j) (J k) = some r := by
      rw [f_X0_isAhead, rhck_t s0, r4, rhck_t s4, n4, J_toInt (by omega) (by omega), rhck_t (by omega), J_clamp (by omega) (by omega), Int.toNat_natCast, a4]; exact h1
    rw [if_pos (by rw [c]), hah, Option.bind_some, hr, rhck_t (bi_01 _)]
    congr 2
    exact propext ⟨fun h => Or.inr ⟨c, h⟩, fun h => h.elim (fun h => by omega) (fun h => h.2)⟩
  · rw [if_neg (by rw [J_eq (by omega) (by omega) (by omega) (by omega)]; omega)]
    by_cases c2 : q.2.1.2.length < p.2.1.2.length
    · rw [if_pos (by rw [J_lt (by omega) (by omega) (by omega) (by omega)]; omega), bi_t (Or.inl c2)]
    · rw [if_neg (by rw [J_lt (by omega) (by omega) (by omega) (by omega)]; omega), bi_f (by omega)]
end
/-! two pulls from a state never come to the same one -/
theorem mvA_inj {T : Tn} {L : Ar} (wL : WA (tR T) (tH T) L) {a b : Tr} (ha : a ∈ pulls T L) (hb : b ∈ pulls T L) (h : mvA L a = mvA L b) : a = b := by
  obtain ⟨a1, a2, a3, a4, a5⟩ := (pulls_ok ha).1
  obtain ⟨b1, b2, b3, b4, b5⟩ := (pulls_ok hb).1
  have hl : ∀ (x : Tr), x.1 < tR T → x.2.2 < tR T → x.1 ≠ x.2.2 → x.2.1 ≤ (rl L x.1).length → ∀ r, (rl (mvA L x) r).length + (if r = x.1 then x.2.1 else 0) = (rl L r).length + (if r = x.2.2 then x.2.1 else 0) := by
    intro x h1 h2 h3 h5 r
    unfold mvA
    rw [mv_rl (by rw [wL.1]; exact h1) (by rw [wL.1]; exact h2)]
    by_cases c1 : r = x.2.2
    · rw [if_pos c1, if_pos c1, if_neg (by omega), List.length_append, sg_len h5, c1]; omega
    · rw [if_neg c1, if_neg c1]
      by_cases c2 : r = x.1
      · rw [if_pos c2, if_pos c2, List.length_take, c2]; omega
      · rw [if_neg c2, if_neg c2]
  have ea := hl a a1 a2 a3 a5
  have eb := hl b b1 b2 b3 b5
  rw [h] at ea
  have x1 := ea a.1
  have y1 := eb a.1
  have x2 := ea a.2.2
  have y2 := eb a.2.2
  rw [if_pos rfl, if_neg a3] at x1
  rw [if_neg (fun e => a3 e.symm), if_pos rfl] at x2
  have f1 : a.1 = b.1 := by
    by_cases c : a.1 = b.1
    · exact c
    · exfalso
      rw [if_neg c] at y1
      omega
  have f2 : a.2.2 = b.2.2 := by
    by_cases c : a.2.2 = b.2.2
    · exact c
    · exfalso
      rw [if_neg c] at y2
      omega
  have f3 : a.2.1 = b.2.1 := by
    rw [if_pos f1, if_neg (by omega)] at y1
    omega
  exact Prod.ext f1 (Prod.ext f3 f2)
theorem cdT_inj {T : Tn} {L L' : Ar} (hw : TWf T) (wL : WA (tR T) (tH T) L) (wL' : WA (tR T) (tH T) L') {a b : Tr} (ha : a ∈ pulls T L) (hb : b ∈ pulls T L') (h : cdT a = cdT b) : a = b := by
  obtain ⟨a1, a2, a3, a4, a5⟩ := (pulls_ok ha).1
  obtain ⟨b1, b2, b3, b4, b5⟩ := (pulls_ok hb).1
  have w1 := hw.1
  have w2 := hw.2.1
  have x1 := wL.rl_len a1
  have y1 := wL'.rl_len b1
  unfold cdT at h
  exact Prod.ext (by omega) (Prod.ext (by omega) (by omega))
theorem RwR_codes {T : Tn} {L0 : Ar} (hw : TWf T) (w0 : WA (tR T) (tH T) L0) : ∀ {r s : List Tr} {L L' : Ar} {w w' : Nat}, RwR T L0 r L w → RwR T L0 s L' w' → r.map cdT = s.map cdT → r = s ∧ L = L' ∧ w = w'
  | [], [], _, _, _, _, h1, h2, _ => by obtain ⟨rfl, rfl⟩ := h1; obtain ⟨rfl, rfl⟩ := h2; exact ⟨rfl, rfl, rfl⟩
  | a :: r, b :: s, L, L', w, w', h1, h2, h => by
    obtain ⟨A, u, g1, g2, rfl, rfl⟩ := h1
    obtain ⟨B, v, k1, k2, rfl, rfl⟩ := h2
    simp only [List.map_cons, List.cons.injEq] at h
    obtain ⟨rfl, rfl, rfl⟩ := RwR_codes hw w0 g1 k1 h.2
    have := cdT_inj hw (RwR_WA w0 g1) (RwR_WA w0 g1) g2 k2 h.1
    subst this
    exact ⟨rfl, rfl, rfl⟩
