/-! WHICH ROW IS AHEAD -/
abbrev Wn : Type := Ar × Ky × Int × Nat
def PWt (N : List Wn) : Prop := ∀ (j : Nat) (q : Wn), N[j]? = some q → q.2.1.2 = [] ∨ ∃ (i : Nat) (pq : Wn), N[i]? = some pq ∧ q.2.2.1 = (i : Int) ∧ q.2.1.2 = q.2.2.2 :: pq.2.1.2
def arw (N : List Wn) : List Ar := N.map fun q => q.1
/-- what the leads say of labelled states -/
def FNw (M : rhM) (F R H : Nat) (N : List Wn) : Prop := ∀ (j : Nat) (q : Wn), N[j]? = some q → M.2.1 (F + 3) (nm R H q.1) = jl (ld q.2.1.2.length (nm R H ((arw N).getD q.2.2.1.toNat [])) q.2.2.2) ∧ q.2.2.2 < 512 ∧ q.2.1.2.length ≤ 60480
theorem arw_get {N : List Wn} {j : Nat} {q : Wn} (hq : N[j]? = some q) : (arw N)[j]? = some q.1 := by unfold arw; rw [List.getElem?_map, hq]; rfl
theorem arw_gd {N : List Wn} {j : Nat} {q : Wn} (hq : N[j]? = some q) : (arw N).getD j [] = q.1 := by rw [List.getD_eq_getElem?_getD, arw_get hq]; rfl
def ltc (c d : List Nat) : Prop := c.length < d.length ∨ (c.length = d.length ∧ lxl c d)
theorem bi_01 (p : Prop) : bi p = 0 ∨ bi p = 1 := by
  by_cases c : p
  · exact Or.inr (bi_t c)
  · exact Or.inl (bi_f c)
section
variable {Γ : rhG} {M : rhM} {F cp R H : Nat} {N : List Wn}
theorem c_ahead36 (hS : FSh Γ M F cp) (hcp : cp ≤ 60480) (hH : H ≤ 8) (hRH : 0 < H → 0 < R) (hcw : ways R H ≤ cp) (hv : ∀ (j : Nat) (q : Wn), N[j]? = some q → WA R H q.1) (nd : (N.map fun q => q.1).Nodup) (hP : PWt N) (hF : FNw M F R H N) : ∀ (d n j k : Nat) (q p : Wn) (v : Int32), (v = 0 ∨ v = 1) → N[j]? = some q → N[k]? = some p → q.2.1.2.length = d → p.2.1.2.length = d → d < n →
    ∃ r, f_X0_isAhead_36 Γ M n F (J (nm R H q.1 : Nat)) (J (nm R H p.1 : Nat)) v (J d) = some r ∧ (q.2.1.2 = p.2.1.2 → r = v) ∧ (q.2.1.2 ≠ p.2.1.2 → r = bi (lxl q.2.1.2 p.2.1.2)) := by
  intro d
  induction d with
  | zero =>
    intro n j k q p v hv' hq hp h1 h2 hn
    obtain ⟨n, rfl⟩ : ∃ k, n = k + 1 := ⟨n - 1, by omega⟩
    refine ⟨v, ?_, fun _ => rfl, fun h => absurd ?_ h⟩
    · rw [f_X0_isAhead_36, if_neg (by rw [show (0 : Int32) = J 0 from rfl, J_lt (by omega) (by omega) (by omega) (by omega)]; omega), rhck_t hv']
    · rw [List.length_eq_zero_iff.mp h1, List.length_eq_zero_iff.mp h2]
  | succ d ih =>
    intro n j k q p v hv' hq hp h1 h2 hn
    obtain ⟨n, rfl⟩ : ∃ k, n = k + 1 := ⟨n - 1, by omega⟩
    have wq := hv j q hq
    have wp' := hv k p hp
    have lq := nm_lt wq hH hRH
    have lp := nm_lt wp' hH hRH
    obtain ⟨a2, a3, a4⟩ := hF j q hq
    obtain ⟨b2, b3, b4⟩ := hF k p hp
    rw [f_X0_isAhead_36, if_pos (by rw [show (0 : Int32) = J 0 from rfl, J_lt (by omega) (by omega) (by omega) (by omega)]; omega)]
    by_cases e : nm R H q.1 = nm R H p.1
    · have e1 := nm_inj wq wp' hH hRH e
      have g1 : (N.map fun q => q.1)[j]? = some q.1 := by rw [List.getElem?_map, hq]; rfl
      have g2 : (N.map fun q => q.1)[k]? = some q.1 := by rw [List.getElem?_map, hp, e1]; rfl
      have ejk := (List.getElem?_inj (List.getElem?_eq_some_iff.mp g1).1 nd).mp (g1.trans g2.symm)
      subst ejk
      rw [hq] at hp
      cases hp
      exact ⟨v, by rw [if_pos rfl, rhck_t hv'], fun _ => rfl, fun h => absurd rfl h⟩
    · rcases hP j q hq with h | ⟨i, pq, g1, g2, g3⟩
      · rw [h] at h1; simp at h1
      rcases hP k p hp with h | ⟨i', pp, g1', g2', g3'⟩
      · rw [h] at h2; simp at h2
      have eq1 : (arw N).getD q.2.2.1.toNat [] = pq.1 := by rw [g2, Int.toNat_natCast, arw_gd g1]
      have ep1 : (arw N).getD p.2.2.1.toNat [] = pp.1 := by rw [g2', Int.toNat_natCast, arw_gd g1']
      rw [eq1] at a2
      rw [ep1] at b2
      have lpq := nm_lt (hv i pq g1) hH hRH
      have lpp := nm_lt (hv i' pp g1') hH hRH
      have cq := c_codeOf hS hcp (show nm R H q.1 < cp by omega) a4 (show nm R H pq.1 < 65536 by omega) a3 a2
      have cp' := c_codeOf hS hcp (show nm R H p.1 < cp by omega) b4 (show nm R H pp.1 < 65536 by omega) b3 b2
      have dq := c_parentOf hS hcp (show nm R H q.1 < cp by omega) a4 (show nm R H pq.1 < 65536 by omega) a3 a2
      have dp := c_parentOf hS hcp (show nm R H p.1 < cp by omega) b4 (show nm R H pp.1 < 65536 by omega) b3 b2
      rw [g3, List.length_cons] at h1
      rw [g3', List.length_cons] at h2
      rw [if_neg (by rw [J_eq (by omega) (by omega) (by omega) (by omega)]; omega), rhck_t hS.1, cq, Option.bind_some, cp', Option.bind_some]
      have e79 : ∀ v' : Int32, f_X0_isAhead_79 (f_X0_isAhead_36 Γ M n) Γ M F (J (nm R H q.1 : Nat)) (J (nm R H p.1 : Nat)) v' (J ((d + 1 : Nat) : Int)) = f_X0_isAhead_36 Γ M n F (J (nm R H pq.1 : Nat)) (J (nm R H pp.1 : Nat)) v' (J d) := by
        intro v'
        rw [f_X0_isAhead_79, rhck_t hS.1, dq, Option.bind_some, dp, Option.bind_some, show (-1 : Int32) = J (-1) from rfl, J_add, show ((d + 1 : Nat) : Int) + -1 = (d : Int) by omega]
      have fin : ∀ v' : Int32, (v' = 0 ∨ v' = 1) → (q.2.2.2 = p.2.2.2 → v' = v) → (q.2.2.2 ≠ p.2.2.2 → v' = bi (q.2.2.2 < p.2.2.2)) → ∃ r, f_X0_isAhead_36 Γ M n F (J (nm R H pq.1 : Nat)) (J (nm R H pp.1 : Nat)) v' (J d) = some r ∧ (q.2.1.2 = p.2.1.2 → r = v) ∧ (q.2.1.2 ≠ p.2.1.2 → r = bi (lxl q.2.1.2 p.2.1.2)) := by
        intro v' hv'' x1 x2
        obtain ⟨r, y1, y2, y3⟩ := ih n i i' pq pp v' hv'' g1 g1' (by omega) (by omega) (by omega)
        refine ⟨r, y1, fun h => ?_, fun h => ?_⟩
        · rw [g3, g3'] at h
          simp only [List.cons.injEq] at h
          rw [y2 h.2]; exact x1 h.1
        · rw [g3, g3'] at h ⊢
          by_cases c : pq.2.1.2 = pp.2.1.2
          · have hc : q.2.2.2 ≠ p.2.2.2 := fun e => h (by rw [e, c])
            rw [y2 c, x2 hc]
            congr 1
            rw [lxl, c]
            exact propext ⟨fun h => Or.inr ⟨rfl, h⟩, fun h => h.elim (fun h => absurd h (lxl_irr _)) (fun h => h.2)⟩
          · rw [y3 c]
            congr 1
            rw [lxl]
            exact propext ⟨fun h => Or.inl h, fun h => h.elim id (fun h => absurd h.1 c)⟩
      by_cases c1 : q.2.2.2 = p.2.2.2
      · rw [if_pos (by rw [c1]), e79]
        exact fin v hv' (fun _ => rfl) (fun h => absurd c1 h)
      · rw [if_neg (by rw [J_eq (by omega) (by omega) (by omega) (by omega)]; omega), Option.bind_some, Option.bind_some]
        by_cases c2 : q.2.2.2 < p.2.2.2
        · rw [if_pos (by rw [J_lt (by omega) (by omega) (by omega) (by omega)]; omega), f_X0_isAhead_77, e79]
          exact fin 1 (Or.inr rfl) (fun h => absurd h c1) (fun _ => (bi_t c2).symm)
        · rw [if_neg (by rw [J_lt (by omega) (by omega) (by omega) (by omega)]; omega), f_X0_isAhead_77, e79]
          exact fin 0 (Or.inl rfl) (fun h => absurd h c1) (fun _ => (bi_f c2).symm)
theorem c_isAhead (hS : FSh Γ M F cp) (hcp : cp ≤ 60480) (hH : H ≤ 8) (hRH : 0 < H → 0 < R) (hcw : ways R H ≤ cp) (hv : ∀ (j : Nat) (q : Wn), N[j]? = some q → WA R H q.1) (nd : (N.map fun q => q.1).Nodup) (hP : PWt N) (hF : FNw M F R H N) (hpar : ∀ (j : Nat) (q : Wn), N[j]? = some q → WA R H ((arw N).getD q.2.2.1.toNat [])) {j k : Nat} {q p : Wn} (hq : N[j]? = some q) (hp : N[k]? = some p) : f_X0_isAhead Γ M F (J (nm R H q.1 : Nat)) (J (nm R H p.1 : Nat)) = some (bi (ltc q.2.1.2 p.2.1.2)) := by
  have lq := nm_lt (hv j q hq) hH hRH
  have lp := nm_lt (hv k p hp) hH hRH
  obtain ⟨a2, a3, a4⟩ := hF j q hq
  obtain ⟨b2, b3, b4⟩ := hF k p hp
  have lpq := nm_lt (hpar j q hq) hH hRH
  have lpp := nm_lt (hpar k p hp) hH hRH
  have pq := c_pullsTo hS hcp (show nm R H q.1 < cp by omega) a4 (by omega) a3 a2
  have pp := c_pullsTo hS hcp (show nm R H p.1 < cp by omega) b4 (by omega) b3 b2
  rw [f_X0_isAhead, rhck_t hS.1, pq, Option.bind_some, pp, Option.bind_some]
  unfold ltc
  by_cases c : q.2.1.2.length = p.2.1.2.length
  · obtain ⟨r, h1, h2, h3⟩ := c_ahead36 hS hcp hH hRH hcw hv nd hP hF q.2.1.2.length rhFU j k q p 0 (Or.inl rfl) hq hp rfl c.symm (by have := FU_big; omega)
    have hr : r = bi (lxl q.2.1.2 p.2.1.2) := by
      by_cases e : q.2.1.2 = p.2.1.2
      · rw [h2 e, bi_f (by rw [e]; exact lxl_irr _)]
      · exact h3 e
    rw [if_pos (by rw [c]), h1, hr]
    congr 2
    exact propext ⟨fun h => Or.inr ⟨c, h⟩, fun h => h.elim (fun h => by omega) (fun h => h.2)⟩
  · rw [if_neg (by rw [J_eq (by omega) (by omega) (by omega) (by omega)]; omega), Option.bind_some]
    by_cases c2 : q.2.1.2.length < p.2.1.2.length
    · rw [if_pos (by rw [J_lt (by omega) (by omega) (by omega) (by omega)]; omega), bi_t (Or.inl c2)]
    · rw [if_neg (by rw [J_lt (by omega) (by omega) (by omega) (by omega)]; omega), bi_f (by omega)]
end
/-! two pulls from a state never come to the same one -/
theorem mvA_inj {T : Tn} {L : Ar} (wL : WA (tR T) (tH T) L) {a b : Tr} (ha : a ∈ pulls T L) (hb : b ∈ pulls T L) (h : mvA L a = mvA L b) : a = b := by
  obtain ⟨a1, a2, a3, a4, a5⟩ := (pulls_ok ha).1
  obtain ⟨b1, b2, b3, b4, b5⟩ := (pulls_ok hb).1
  have hl : ∀ (x : Tr), x.1 < tR T → x.2.2 < tR T → x.1 ≠ x.2.2 → x.2.1 ≤ (rl L x.1).length → ∀ r, (rl (mvA L x) r).length + (if r = x.1 then x.2.1 else 0) = (rl L r).length + (if r = x.2.2 then x.2.1 else 0) := by
    intro x h1 h2 h3 h5 r
    unfold mvA
    rw [mv_rl (by rw [wL.1]; exact h1) (by rw [wL.1]; exact h2)]
    by_cases c1 : r = x.2.2
    · rw [if_pos c1, if_pos c1, if_neg (by omega), List.length_append, sg_len h5, c1]; omega
    · rw [if_neg c1, if_neg c1]
      by_cases c2 : r = x.1
      · rw [if_pos c2, if_pos c2, List.length_take, c2]; omega
      · rw [if_neg c2, if_neg c2]
  have ea := hl a a1 a2 a3 a5
  have eb := hl b b1 b2 b3 b5
  rw [h] at ea
  have x1 := ea a.1
  have y1 := eb a.1
  have x2 := ea a.2.2
  have y2 := eb a.2.2
  rw [if_pos rfl, if_neg a3] at x1
  rw [if_neg (fun e => a3 e.symm), if_pos rfl] at x2
  have f1 : a.1 = b.1 := by
    by_cases c : a.1 = b.1
    · exact c
    · exfalso
      rw [if_neg c] at y1
      omega
  have f2 : a.2.2 = b.2.2 := by
    by_cases c : a.2.2 = b.2.2
    · exact c
    · exfalso
      rw [if_neg c] at y2
      omega
  have f3 : a.2.1 = b.2.1 := by
    rw [if_pos f1, if_neg (by omega)] at y1
    omega
  exact Prod.ext f1 (Prod.ext f3 f2)
theorem cdT_inj {T : Tn} {L L' : Ar} (hw : TWf T) (wL : WA (tR T) (tH T) L) (wL' : WA (tR T) (tH T) L') {a b : Tr} (ha : a ∈ pulls T L) (hb : b ∈ pulls T L') (h : cdT a = cdT b) : a = b := by
  obtain ⟨a1, a2, a3, a4, a5⟩ := (pulls_ok ha).1
  obtain ⟨b1, b2, b3, b4, b5⟩ := (pulls_ok hb).1
  have w1 := hw.1
  have w2 := hw.2.1
  have x1 := wL.rl_len a1
  have y1 := wL'.rl_len b1
  unfold cdT at h
  exact Prod.ext (by omega) (Prod.ext (by omega) (by omega))
theorem RwR_codes {T : Tn} {L0 : Ar} (hw : TWf T) (w0 : WA (tR T) (tH T) L0) : ∀ {r s : List Tr} {L L' : Ar} {w w' : Nat}, RwR T L0 r L w → RwR T L0 s L' w' → r.map cdT = s.map cdT → r = s ∧ L = L' ∧ w = w'
  | [], [], _, _, _, _, h1, h2, _ => by obtain ⟨rfl, rfl⟩ := h1; obtain ⟨rfl, rfl⟩ := h2; exact ⟨rfl, rfl, rfl⟩
  | a :: r, b :: s, L, L', w, w', h1, h2, h => by
    obtain ⟨A, u, g1, g2, rfl, rfl⟩ := h1
    obtain ⟨B, v, k1, k2, rfl, rfl⟩ := h2
    simp only [List.map_cons, List.cons.injEq] at h
    obtain ⟨rfl, rfl, rfl⟩ := RwR_codes hw w0 g1 k1 h.2
    have := cdT_inj hw (RwR_WA w0 g1) (RwR_WA w0 g1) g2 k2 h.1
    subst this
    exact ⟨rfl, rfl, rfl⟩
