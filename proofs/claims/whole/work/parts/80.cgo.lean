/-! GOING ON FROM A STATE -/
theorem QW.dep_le {T : Tn} {L0 : Ar} {Q : List Nd} (h : QW T L0 Q) : ∀ (j : Nat), j < Q.length → dep Q j ≤ j := by
  intro j
  induction j using Nat.strongRecOn with
  | _ j ih =>
    intro hj
    by_cases h0 : 0 < j
    · obtain ⟨i, pq, a, h1, h2, -, -, -, -, h7⟩ := h.2.2.2 j _ (List.getElem?_eq_getElem hj) h0
      have hi := ih i h1 (by omega)
      have e1 : dep Q j = pq.2.2.2 + 1 := by unfold dep; rw [List.getElem?_eq_getElem hj]; exact h7
      have e2 : dep Q i = pq.2.2.2 := by unfold dep; rw [h2]
      omega
    · rw [show j = 0 by omega]
      unfold dep; rw [h.1]; exact Nat.le_refl _
theorem cd_511 {T : Tn} {L : Ar} (h4 : tR T ≤ 4) (h6 : tH T ≤ 6) (wL : WA (tR T) (tH T) L) {a : Tr} (ha : a ∈ pulls T L) : cdT a < 512 := by
  obtain ⟨a1, a2, a3, a4, a5⟩ := (pulls_ok ha).1
  have x1 := wL.rl_len a1
  unfold cdT; omega
theorem arrs_get {Q : List Nd} {j : Nat} {q : Nd} (hq : Q[j]? = some q) : (arrs Q)[j]? = some q.1 := by unfold arrs; rw [List.getElem?_map, hq]; rfl
theorem arrs_gd {Q : List Nd} {j : Nat} {q : Nd} (hq : Q[j]? = some q) : (arrs Q).getD j [] = q.1 := by rw [List.getD_eq_getElem?_getD, arrs_get hq]; rfl
theorem QW.rd {T : Tn} {L0 : Ar} {Q : List Nd} (h : QW T L0 Q) (hl : Q.length ≤ 60480) (h4 : tR T ≤ 4) (h6 : tH T ≤ 6) {j : Nat} {q : Nd} (hq : Q[j]? = some q) : q.2.2.2 ≤ 60480 ∧ q.2.2.1 < 512 ∧ q.2.1.toNat < Q.length ∧ WA (tR T) (tH T) ((arrs Q).getD q.2.1.toNat []) := by
  have hjl := (List.getElem?_eq_some_iff.mp hq).1
  have hp := h.par hq
  have hd := h.dep_le j hjl
  have hdq : dep Q j = q.2.2.2 := by unfold dep; rw [hq]
  have hal : (arrs Q).length = Q.length := by simp [arrs]
  refine ⟨by omega, ?_, by omega, h.2.1 _ (gd_mem [] (by rw [hal]; omega))⟩
  by_cases h0 : 0 < j
  · obtain ⟨i, pq, a, g1, g2, -, g4, -, g6, -⟩ := h.2.2.2 j q hq h0
    rw [g6]
    exact cd_511 h4 h6 (h.2.1 _ (List.mem_map.mpr ⟨pq, List.mem_of_getElem? g2, rfl⟩)) g4
  · rw [show j = 0 by omega, h.1] at hq
    cases hq
    show (0 : Nat) < 512
    omega
/-- what the leads say of the states that were come to, and of the others -/
def FN (M : rhM) (F R H : Nat) (Q : List Nd) : Prop := ∀ (j : Nat) (q : Nd), Q[j]? = some q → M.2.1 (F + 3) (nm R H q.1) = jl (ld q.2.2.2 (nm R H ((arrs Q).getD q.2.1.toNat [])) q.2.2.1)
def FX (M : rhM) (F R H : Nat) (A : List Ar) : Prop := ∀ k, k < ways R H → (∀ L, L ∈ A → nm R H L ≠ k) → M.2.1 (F + 3) k = -1
def bl (R H : Nat) (A : List Ar) : Nat → List Nat := fun k => if k = 0 then A.map (nm R H) else []
def FAq (M : rhM) (F cp R H : Nat) (Q : List Nd) : Prop := FN M F R H Q ∧ FX M F R H (arrs Q) ∧ WL M F cp (bl R H (arrs Q)) (fun _ => 0) Q.length
def SI (Γ : rhG) (M : rhM) (S F t cp Ln : Nat) (T : Tn) : Prop := SSh Γ M S F cp Ln ∧ M.2.2 S 5 = t ∧ TSh Γ M t ∧ TC M t T ∧ PA Γ M (S + 11) (S + 12) Ln t T ∧ NT M (S + 7) (tR T) (tH T) ∧ M.1 F 0 = J cp
def W1 (S F : Nat) : List Nat := [S, F, F + 1, F + 2, F + 3, F + 4, F + 5]
def W2 (S F t : Nat) : List Nat := [S, S + 7, S + 8, S + 9, S + 10, S + 12, S + 13, S + 14, S + 15, S + 16, S + 17, S + 18, S + 19, S + 20, S + 21, S + 22, F, F + 1, F + 2, F + 3, F + 4, F + 5, t + 9, t + 10]
theorem SSh.fr {Γ : rhG} {M M' : rhM} {S F cp Ln : Nat} (h : SSh Γ M S F cp Ln) (hF : M'.2.2 = M.2.2) : SSh Γ M' S F cp Ln := by
  unfold SSh NSh SS SX FSh; rw [hF]; exact h
theorem town_W {S F t : Nat} (d : t + 10 < S) (dF : F = S + 1 ∨ S + 22 < F) : ∀ r, r ∈ [t, t + 1, t + 2, t + 3, t + 4, t + 6, t + 7, t + 8] → r ∉ W2 S F t ∧ r ∉ W1 S F := by
  intro r hr
  unfold W2 W1
  simp only [List.mem_cons, List.not_mem_nil, or_false] at hr ⊢
  omega
theorem W12 (S F t : Nat) : ∀ r, r ∈ W1 S F → r ∈ W2 S F t := by
  intro r hr; unfold W1 at hr; unfold W2; simp only [List.mem_cons, List.not_mem_nil, or_false] at hr ⊢; omega
theorem SI.fr1 {Γ : rhG} {M M' : rhM} {S F t cp Ln : Nat} {T : Tn} (h : SI Γ M S F t cp Ln T) (d : t + 10 < S) (hF : Fr (W1 S F) M M') (h0 : M'.1 F 0 = M.1 F 0) : SI Γ M' S F t cp Ln T := by
  obtain ⟨h1, h2, h3, h4, h5, h6, h7⟩ := h
  have dF := h1.2.2.2.2.2.2.1
  exact ⟨h1.fr hF.1, by rw [hF.1]; exact h2, h3.fr hF.1, h4.fr hF (fun r hr => (town_W d dF r hr).2), h5.fr hF (by unfold W1; simp; omega), h6.fr hF (by unfold W1; simp; omega) (by unfold W1; simp; omega) (by unfold W1; simp; omega) (by unfold W1; simp; omega), by rw [h0]; exact h7⟩
theorem BM.fr {M M' : rhM} {S : Nat} {T : Tn} {md : Md} {l : List Ar} (h : BM M S T md l) (h1 : M'.1 S = M.1 S) (h2 : M'.2.1 S = M.2.1 S) : BM M' S T md l := by
  unfold BM; rw [h1, h2]; exact h
theorem FAq.fr {M M' : rhM} {F cp R H : Nat} {Q : List Nd} {W : List Nat} (h : FAq M F cp R H Q) (hF : Fr W M M') (h0 : F ∉ W) (h1 : F + 1 ∉ W) (h2 : F + 2 ∉ W) (h3 : F + 3 ∉ W) (h4 : F + 4 ∉ W) (h5 : F + 5 ∉ W) : FAq M' F cp R H Q := by
  obtain ⟨a, b, c⟩ := h
  refine ⟨?_, ?_, c.fr hF h0 h1 h2 h4 h5⟩
  · unfold FN; rw [hF.l h3]; exact a
  · unfold FX; rw [hF.l h3]; exact b
theorem bl_snoc (R H : Nat) (A : List Ar) (L : Ar) : uN (bl R H A) 0 (bl R H A 0 ++ [nm R H L]) = bl R H (A ++ [L]) := by
  funext k
  by_cases c : k = 0
  · subst c; rw [uN_eq]; unfold bl; simp
  · rw [uN_ne _ _ c]; unfold bl; rw [if_neg c, if_neg c]
theorem uN_0 (x : Nat) : uN (fun _ : Nat => 0) x 0 = fun _ => 0 := by funext k; unfold uN; split <;> rfl
/-- a state that is new is put behind the others -/
theorem FAq_put {T : Tn} {L0 : Ar} {M M2 : rhM} {F cp : Nat} {Q : List Nd} (hA : FAq M F cp (tR T) (tH T) Q) (hQ : QW T L0 Q) (hH : tH T ≤ 8) (hRH : 0 < tH T → 0 < tR T) {L : Ar} (wL : WA (tR T) (tH T) L) (hn : L ∉ arrs Q) {i cd : Nat} {q : Nd} (hq : Q[i]? = some q)
    (hl : ∀ j, M2.2.1 (F + 3) j = if j = nm (tR T) (tH T) L then jl (ld (q.2.2.2 + 1) (nm (tR T) (tH T) q.1) cd) else M.2.1 (F + 3) j) (hW : WL M2 F cp (uN (bl (tR T) (tH T) (arrs Q)) 0 (bl (tR T) (tH T) (arrs Q) 0 ++ [nm (tR T) (tH T) L])) (uN (fun _ => 0) (nm (tR T) (tH T) L) 0) (Q.length + 1)) :
    FAq M2 F cp (tR T) (tH T) (Q ++ [(L, (i : Int), cd, q.2.2.2 + 1)]) := by
  obtain ⟨a, b, -⟩ := hA
  have hil := (List.getElem?_eq_some_iff.mp hq).1
  have hal : (arrs Q).length = Q.length := by simp [arrs]
  refine ⟨fun j x hx => ?_, fun k hk hno => ?_, ?_⟩
  · rw [arrs_app]
    by_cases c : j < Q.length
    · rw [List.getElem?_append_left c] at hx
      have hp := hQ.par hx
      have hx1 : x.1 ∈ arrs Q := List.mem_map.mpr ⟨x, List.mem_of_getElem? hx, rfl⟩
      rw [hl, if_neg (fun e => hn (nm_inj (hQ.2.1 _ hx1) wL hH hRH e ▸ hx1)), gd_l _ (by rw [hal]; omega)]
      exact a j x hx
    · have hjl := (List.getElem?_eq_some_iff.mp hx).1
      rw [List.length_append, List.length_singleton] at hjl
      have hj2 : j = Q.length := by omega
      subst hj2
      rw [List.getElem?_append_right (Nat.le_refl _), Nat.sub_self] at hx
      cases hx
      rw [hl, if_pos rfl]
      dsimp only
      rw [Int.toNat_natCast, gd_l _ (by rw [hal]; exact hil), arrs_gd hq]
  · rw [arrs_app] at hno
    rw [hl, if_neg (fun e => hno L (by simp [arrs]) e.symm)]
    exact b k hk (fun L' hL' => hno L' (List.mem_append_left _ hL'))
  · rw [bl_snoc, uN_0] at hW
    rw [arrs_app, List.length_append, List.length_singleton]; exact hW
theorem FAq.new {T : Tn} {L0 : Ar} {M : rhM} {F cp : Nat} {Q : List Nd} (hA : FAq M F cp (tR T) (tH T) Q) (hQ : QW T L0 Q) (hl : Q.length ≤ 60480) (h4 : tR T ≤ 4) (h6 : tH T ≤ 6) (hRH : 0 < tH T → 0 < tR T) (h60 : ways (tR T) (tH T) ≤ 60480) {L : Ar} (wL : WA (tR T) (tH T) L) : (M.2.1 (F + 3) (nm (tR T) (tH T) L) = -1) ↔ L ∉ arrs Q := by
  constructor
  · intro h hm
    obtain ⟨j, hj, e⟩ := List.getElem_of_mem hm
    have hq : ∃ q, Q[j]? = some q ∧ q.1 = L := by
      unfold arrs at hj e
      rw [List.length_map] at hj
      rw [List.getElem_map] at e
      exact ⟨Q[j], List.getElem?_eq_getElem hj, e⟩
    obtain ⟨q, hq, rfl⟩ := hq
    obtain ⟨r1, r2, r3, r4⟩ := hQ.rd hl h4 h6 hq
    rw [hA.1 j q hq] at h
    have := nm_lt r4 (by omega) hRH
    exact ld_new r1 (by omega) r2 h
  · intro h
    exact hA.2.1 _ (nm_lt wL (by omega) hRH) (fun L' hL' e => h (nm_inj (hQ.2.1 _ hL') wL (by omega) hRH e ▸ hL'))
section
variable {Γ : rhG} {T : Tn} {S F t cp Ln : Nat} {md : Md} {L0 : Ar}
theorem fmt_snoc {p : Ar → Prop} {Q : List Nd} (h : ∀ L, L ∈ arrs Q → ¬ p L) {x : Nd} (hx : p x.1) : fmt p (Q ++ [x]) = some Q.length := by
  refine fmt_some.mpr ⟨⟨x, by rw [List.getElem?_append_right (Nat.le_refl _), Nat.sub_self]; rfl, hx⟩, fun i q hi hq => ?_⟩
  rw [List.getElem?_append_left hi] at hq
  exact h _ (List.mem_map.mpr ⟨q, List.mem_of_getElem? hq, rfl⟩)
theorem not_snoc {p : Ar → Prop} {Q : List Nd} (h : ∀ L, L ∈ arrs Q → ¬ p L) {x : Nd} (hx : ¬ p x.1) : ∀ L, L ∈ arrs (Q ++ [x]) → ¬ p L := by
  intro L hL
  rw [arrs_app, List.mem_append] at hL
  rcases hL with hL | hL
  · exact h L hL
  · simp only [arrs, List.map_cons, List.map_nil, List.mem_singleton] at hL
    subst hL; exact hx
def GI (Γ : rhG) (M : rhM) (S F t cp Ln : Nat) (T : Tn) (L0 : Ar) (md : Md) (Q : List Nd) : Prop := SI Γ M S F t cp Ln T ∧ QW T L0 Q ∧ FAq M F cp (tR T) (tH T) Q ∧ BM M S T md (arrs Q)
set_option maxHeartbeats 4000000 in
theorem c_go44 (hw : TWf T) (h4 : tR T ≤ 4) (h6 : tH T ≤ 6) (hRH : 0 < tH T → 0 < tR T) (d : t + 10 < S) (h60 : ways (tR T) (tH T) ≤ 60480) (hcw : ways (tR T) (tH T) ≤ cp) {L : Ar} {at_ : Nat} {q : Nd} (hqL : q.1 = L) (Qp : Int32 × rhM → Prop) : ∀ (rest : List Tr) (n : Nat) (M : rhM) (i : Nat) (Q : List Nd),
    (pulls T L).drop i = rest → i ≤ (pulls T L).length → (pulls T L).length ≤ 32 → GI Γ M S F t cp Ln T L0 md Q → SA M (S + 13) (tR T) L → LPu M (S + 13) L (pulls T L) → LPn M (S + 13) (tR T) (tH T) L (pulls T L) → Q[at_]? = some q → (∀ L, L ∈ arrs Q → ¬ pM md L) → rest.length < n →
    (∀ M', Fr (W1 S F) M M' → GI Γ M' S F t cp Ln T L0 md (putL L at_ q.2.2.2 rest Q) → (∀ L', L' ∈ arrs (putL L at_ q.2.2.2 rest Q) → ¬ pM md L') → (∀ j, j ≠ 0 → j ≠ 10 → M'.1 S j = M.1 S j) → Qp (-1, M')) →
    (∀ M' Q' j L', Fr (W1 S F) M M' → Q' <+: putL L at_ q.2.2.2 rest Q → Q'.length = j + 1 → (arrs Q')[j]? = some L' → fmt (pM md) Q' = some j → GI Γ M' S F t cp Ln T L0 md Q' → (∀ j, j ≠ 0 → j ≠ 10 → M'.1 S j = M.1 S j) → Qp (J (nm (tR T) (tH T) L' : Nat), M')) →
    wp (f_X5_goOn_44 Γ n M S (J (nm (tR T) (tH T) L : Nat)) (J i)) Qp := by
  have w1 := hw.1
  have w2 := hw.2.1
  intro rest
  induction rest with
  | nil =>
    intro n M i Q hd hi h32 hG hA hLP hLN hq hno hn hN hM
    obtain ⟨n, rfl⟩ : ∃ k, n = k + 1 := ⟨n - 1, by omega⟩
    have hlen := congrArg List.length hd
    rw [List.length_drop] at hlen
    simp only [List.length_nil] at hlen
    have hS := hG.1.1
    rw [f_X5_goOn_44, wp_ck_t hS.1, hS.2.1.2.2.2, wp_ck_t hS.2.2.2.1.1, hLP.1, wp_ite_f (by rw [J_lt (by omega) (by omega) (by omega) (by omega)]; omega), wp_some]
    exact hN M (Fr.refl _ _) hG hno (fun _ _ _ => rfl)
  | cons a rest ih =>
    intro n M i Q hd hi h32 hG hA hLP hLN hq hno hn hN hM
    obtain ⟨n, rfl⟩ : ∃ k, n = k + 1 := ⟨n - 1, by omega⟩
    rw [List.length_cons] at hn
    have hlen := congrArg List.length hd
    rw [List.length_drop, List.length_cons] at hlen
    have hai : (pulls T L)[i]? = some a := by
      have := List.getElem?_drop (xs := pulls T L) (i := i) (j := 0)
      rw [hd, Nat.add_zero] at this; rw [← this]; rfl
    have hnext : (pulls T L).drop (i + 1) = rest := by
      have := congrArg (List.drop 1) hd
      rw [List.drop_drop] at this; simpa using this
    have hG0 := hG
    obtain ⟨hSI, hQW, hFA, hBM⟩ := hG
    have hSI0 := hSI
    obtain ⟨hS, hT5, hts, hT, hP, hNT, hF0⟩ := hSI
    have hS0 := hS
    have hxb := hS.xb
    obtain ⟨kS, ⟨f1, f2, f3, f4⟩, hNs, sS, sF, -, dF, hS18, hcp, hLn⟩ := hS
    have sS0 := sS
    obtain ⟨ks0, -, -, -, -, ⟨k5, n5⟩, -, -, -, -, -, g7, -, -, -, ⟨x9, y9⟩, -, -, g11⟩ := sS
    rw [hxb] at x9 y9 g11
    have hQL := hQW.len w2 hRH
    have hil := (List.getElem?_eq_some_iff.mp hq).1
    have hal : (arrs Q).length = Q.length := by simp [arrs]
    have hqm : q.1 ∈ arrs Q := List.mem_map.mpr ⟨q, List.mem_of_getElem? hq, rfl⟩
    have wL : WA (tR T) (tH T) L := hqL ▸ hQW.2.1 _ hqm
    have hap : a ∈ pulls T L := List.mem_of_getElem? hai
    have wa := pulls_WA wL hap
    have hlt := nm_lt wa w2 hRH
    have hltL := nm_lt wL w2 hRH
    have hcd := cd_511 h4 h6 wL hap
    have hpn := hLN i a hai
    rw [hxb] at hpn
    have hpc := (hLP.2 i a hai).1
    have hnew := hFA.new hQW (by omega) h4 h6 hRH h60 wa
    have hput1 : putL L at_ q.2.2.2 (a :: rest) Q = putL L at_ q.2.2.2 rest (put1 L at_ q.2.2.2 Q a) := rfl
    obtain ⟨r1, r2, r3, r4⟩ := hQW.rd (by omega) h4 h6 hq
    have hlq := hFA.1 at_ q hq
    rw [hqL] at hlq
    have hpar := nm_lt r4 w2 hRH
    rw [f_X5_goOn_44, wp_ck_t kS, f4, wp_ck_t ks0, hLP.1, wp_ite_t (by rw [J_lt (by omega) (by omega) (by omega) (by omega)]; omega), g11, show S + 20 + 2 = S + 22 by omega, wp_ck_t (by rw [show S + 22 = S + 20 + 2 by omega]; exact x9), show Γ.2.2.2 (S + 22) = 32 by rw [show S + 22 = S + 20 + 2 by omega]; exact y9, J_toInt (by omega) (by omega), wp_ck_t (by omega), f1, wp_ck_t sF.1, J_clamp (by omega) (by omega), Int.toNat_natCast, show S + 22 = S + 20 + 2 by omega, hpn, c_isNew sF hcp hF0 (show nm (tR T) (tH T) (mvA L a) < cp by omega), wp_bind, wp_some]
    by_cases cn : mvA L a ∈ arrs Q
    · have e1 : put1 L at_ q.2.2.2 Q a = Q := by unfold put1; rw [if_pos cn]
      rw [hput1, e1] at hN hM
      rw [if_neg (fun h => hnew.mp h cn), wp_ite_t rfl, f_X5_goOn_121, show (1 : Int32) = J 1 from rfl, J_add, J_suc]
      exact ih n M (i + 1) Q hnext (by omega) h32 hG0 hA hLP hLN hq hno (by omega) hN hM
    · have e1 : put1 L at_ q.2.2.2 Q a = Q ++ [(mvA L a, (at_ : Int), cdT a, q.2.2.2 + 1)] := by unfold put1; rw [if_neg cn]
      have hQW2 : QW T L0 (Q ++ [(mvA L a, (at_ : Int), cdT a, q.2.2.2 + 1)]) := by
        rw [← e1, ← hqL]; exact hQW.put hq (by rw [hqL]; exact hap)
      have hlen2 := hQW2.len w2 hRH
      rw [List.length_append, List.length_singleton] at hlen2
      rw [hput1, e1] at hN hM
      have hne : nm (tR T) (tH T) (mvA L a) ≠ nm (tR T) (tH T) L := fun e => cn (by rw [nm_inj wa wL w2 hRH e, ← hqL]; exact hqm)
      have hpt : f_X0_pullsTo Γ M F (J (nm (tR T) (tH T) L : Nat)) = some (J q.2.2.2) := c_pullsTo sF hcp (by omega) r1 (by omega) r2 hlq
      have hdl := hQW2.dep_le Q.length (by simp)
      have hdq : dep (Q ++ [(mvA L a, (at_ : Int), cdT a, q.2.2.2 + 1)]) Q.length = q.2.2.2 + 1 := by rw [dep_app (Nat.le_refl _), if_neg (by omega)]
      rw [if_pos (hnew.mpr cn), wp_ite_f (by decide), g7, wp_ck_t k5, n5, wp_ck_t (by omega), hpc, wp_bind]
      refine (c_lead sF hcp (x := nm (tR T) (tH T) (mvA L a)) (par := nm (tR T) (tH T) L) (p := q.2.2.2 + 1) (by omega) (by omega) hcd (by omega) (Or.inr ⟨hne, q.2.2.2, rfl, hpt⟩)).mono (fun M1 h1 => ?_)
      obtain ⟨F1, i1, l1⟩ := h1
      have hWL1 : WL M1 F cp (bl (tR T) (tH T) (arrs Q)) (fun _ => 0) Q.length := hFA.2.2.fr F1 (by simp) (by simp) (by simp) (by simp) (by simp)
      rw [F1.1, f1, wp_ck_t sF.1, wp_bind, show (0 : Int32) = J ((0 : Nat) : Int) from rfl]
      refine c_wput (sF.fr F1.1) hcp hWL1 (by omega) (x := nm (tR T) (tH T) (mvA L a)) (v := 0) (by omega) (by omega) (fun k hk hm => ?_) _ (fun M2 F2 z2 hWL2 o2 v2 => ?_)
      · unfold bl at hm
        by_cases c : k = 0
        · rw [if_pos c] at hm
          obtain ⟨A, hA1, hA2⟩ := List.mem_map.mp hm
          exact cn (nm_inj (hQW.2.1 _ hA1) wa w2 hRH hA2 ▸ hA1)
        · rw [if_neg c] at hm; cases hm
      · have F12 : Fr (W1 S F) M M2 := (F1.sub (by unfold W1; simp)).trans (F2.sub (by unfold W1; simp))
        have z12 : M2.1 F 0 = M.1 F 0 := by rw [z2, i1]
        have hSI2 := hSI0.fr1 d F12 z12
        have eS : M2.1 S = M.1 S := by rw [F2.i (by simp; omega), i1]
        have eSl : M2.2.1 S = M.2.1 S := by rw [F2.l (by simp; omega), F1.l (by simp; omega)]
        have hBM2 : BM M2 S T md (arrs Q) := hBM.fr eS eSl
        have hout : ∀ k, k ≤ 9 → S + 13 + k ∉ [F, F + 1, F + 2, F + 3, F + 4, F + 5] := fun k hk => by simp; omega
        have F12' : Fr [F, F + 1, F + 2, F + 3, F + 4, F + 5] M M2 := (F1.sub (by simp)).trans (F2.sub (by simp))
        have hA2 : SA M2 (S + 13) (tR T) L := by
          refine hA.ex ?_ ?_ ?_ ?_ ?_
          · rw [F12'.i (hout 0 (by omega))]
          · exact F12'.l (hout 0 (by omega))
          · exact F12'.i (hout 1 (by omega))
          · exact F12'.i (hout 2 (by omega))
          · exact F12'.i (hout 3 (by omega))
        have hLP2 : LPu M2 (S + 13) L (pulls T L) := hLP.fr F12' (hout 0 (by omega)) (hout 5 (by omega)) (hout 6 (by omega)) (by rw [hxb]; exact hout 7 (by omega)) (by rw [hxb]; exact hout 8 (by omega))
        have hLN2 : LPn M2 (S + 13) (tR T) (tH T) L (pulls T L) := by
          have hLN' := hLN
          unfold LPn at hLN' ⊢
          rw [show xb (S + 13) + 2 = S + 13 + 9 by rw [hxb]] at hLN' ⊢
          rw [F12'.i (hout 9 (by omega))]; exact hLN'
        have hFA2 : FAq M2 F cp (tR T) (tH T) (Q ++ [(mvA L a, (at_ : Int), cdT a, q.2.2.2 + 1)]) := by
          refine FAq_put hFA hQW w2 hRH wa cn hq (fun j => ?_) hWL2
          rw [F2.l (by simp), l1, hqL]
        have hok := (pulls_ok hap).1
        have hnw := c_nextWord (Γ := Γ) (M := M2) hSI2.1.2.2.2.1 w1 w2 wL hA2 hLP2 h32 hai hok.1 hok.2.1 hok.2.2.1 hok.2.2.2.2
        rw [F12.1, f4, wp_ck_t ks0, hnw, wp_bind, wp_some, wp_bind]
        have hmet := fun Qq => c_isMet (Γ := Γ) kS hSI2.2.1 hSI2.2.2.1 hSI2.2.2.2.1 hw hRH h60 hQW.2.1 wa hBM2 Qq
        refine hmet _ (fun M3 c1 c2 c3 c4 => ?_)
        have cF1 : Fr (W1 S F) M2 M3 := c1.sub (by unfold W1; simp)
        have hSF : F ≠ S := by omega
        have z3 : M3.1 F = M2.1 F := c1.i (by simpa using hSF)
        have hSI3 := hSI2.fr1 d cF1 (by rw [z3])
        have hFA3 : FAq M3 F cp (tR T) (tH T) (Q ++ [(mvA L a, (at_ : Int), cdT a, q.2.2.2 + 1)]) := hFA2.fr c1 (by first | (simp; done) | (simp; omega)) (by first | (simp; done) | (simp; omega)) (by first | (simp; done) | (simp; omega)) (by first | (simp; done) | (simp; omega)) (by first | (simp; done) | (simp; omega)) (by first | (simp; done) | (simp; omega))
        have hGI3 : GI Γ M3 S F t cp Ln T L0 md (Q ++ [(mvA L a, (at_ : Int), cdT a, q.2.2.2 + 1)]) := ⟨hSI3, hQW2, hFA3, by rw [arrs_app]; exact c4⟩
        have hFall : Fr (W1 S F) M M3 := F12.trans cF1
        have ej : ∀ j, j ≠ 0 → j ≠ 10 → M3.1 S j = M.1 S j := fun j x y => by rw [c2 j x y, eS]
        by_cases hp : pM md (mvA L a)
        · dsimp only
          rw [bi_t hp, wp_ite_f (show ¬ (1 : Int32) = J ((0 : Nat) : Int) by decide), wp_some]
          refine hM M3 _ Q.length (mvA L a) hFall (putL_pre _ _ _ _ _) (by simp) ?_ (fmt_snoc hno hp) hGI3 ej
          rw [arrs_app, List.getElem?_append_right (by rw [hal]; exact Nat.le_refl _), hal, Nat.sub_self]; rfl
        · have hs13 : ∀ k, S + 13 + k ∉ [S] := fun k => by simp; omega
          dsimp only
          rw [bi_f hp, wp_ite_t (show (0 : Int32) = J ((0 : Nat) : Int) from rfl), f_X5_goOn_121, show (1 : Int32) = J 1 from rfl, J_add, J_suc]
          refine ih n M3 (i + 1) _ hnext (by omega) h32 hGI3 (hA2.ex (by rw [c1.i (hs13 0)]) (c1.l (hs13 0)) (c1.i (hs13 1)) (c1.i (hs13 2)) (c1.i (hs13 3))) (hLP2.fr c1 (hs13 0) (hs13 5) (hs13 6) (by rw [hxb]; exact hs13 7) (by rw [hxb]; exact hs13 8)) ?_ (pre_get (List.prefix_append _ _) hq) (not_snoc hno hp) (by omega)
            (fun M' b1 b2 b3 b4 => hN M' (hFall.trans b1) b2 b3 (fun j x y => by rw [b4 j x y, ej j x y]))
            (fun M' Q' j L' b1 b2 b3 b7 b4 b5 b6 => hM M' Q' j L' (hFall.trans b1) b2 b3 b7 b4 b5 (fun j x y => by rw [b6 j x y, ej j x y]))
          unfold LPn at hLN2 ⊢
          rw [show xb (S + 13) + 2 = S + 13 + 9 by rw [hxb]] at hLN2 ⊢
          rw [c1.i (hs13 9)]; exact hLN2
theorem pulT_len {L : Ar} {f m : Nat} : ∀ (d k : Nat), (pulT T L f m k d).length ≤ d - (if k ≤ f ∧ f < k + d then 1 else 0)
  | 0, k => by simp [pulT]
  | d + 1, k => by
    have ih := pulT_len (L := L) (f := f) (m := m) d (k + 1)
    rw [pulT_s, List.length_append]
    by_cases e : k = f
    · have eo : okb T L f m k = false := okb_f (fun h => h.1.2.2.1 (by rw [e]))
      rw [eo, if_pos (show k ≤ f ∧ f < k + (d + 1) by omega)]
      rw [if_neg (show ¬ (k + 1 ≤ f ∧ f < k + 1 + d) by omega)] at ih
      simp; omega
    · have : (if okb T L f m k = true then [(f, m, k)] else []).length ≤ 1 := by split <;> simp
      by_cases c : k ≤ f ∧ f < k + (d + 1)
      · rw [if_pos c]
        rw [if_pos (by omega)] at ih
        omega
      · rw [if_neg c]
        rw [if_neg (by omega)] at ih
        omega
theorem pulM_len {L : Ar} {f : Nat} (hf : f < tR T) : ∀ (d m : Nat), (pulM T L f m d).length ≤ d * (tR T - 1)
  | 0, m => by simp [pulM]
  | d + 1, m => by
    have ih := pulM_len (L := L) hf d (m + 1)
    have h1 := pulT_len (T := T) (L := L) (f := f) (m := m) (tR T) 0
    rw [if_pos (by omega)] at h1
    rw [pulM_s, List.length_append, Nat.succ_mul]; omega
theorem pulF_len {L : Ar} : ∀ (d f : Nat), f + d = tR T → (pulF T L f d).length + cum L f * (tR T - 1) ≤ cum L (tR T) * (tR T - 1)
  | 0, f, h => by rw [show f = tR T by omega]; simp [pulF]
  | d + 1, f, h => by
    have ih := pulF_len (L := L) d (f + 1) (by omega)
    have h1 := pulM_len (T := T) (L := L) (f := f) (by omega) (rl L f).length 1
    rw [cum_succ, Nat.add_mul] at ih
    rw [pulF_s, List.length_append]; omega
theorem pulls_len {L : Ar} (w1 : tR T ≤ 5) (w2 : tH T ≤ 8) (wL : WA (tR T) (tH T) L) : (pulls T L).length ≤ 32 := by
  have h := pulF_len (T := T) (L := L) (tR T) 0 (by omega)
  rw [wL.cumR] at h
  have : tH T * (tR T - 1) ≤ 8 * 4 := Nat.mul_le_mul w2 (by omega)
  unfold pulls; omega
theorem c_goOn (hw : TWf T) (h4 : tR T ≤ 4) (h6 : tH T ≤ 6) (hRH : 0 < tH T → 0 < tR T) (d : t + 10 < S) (h60 : ways (tR T) (tH T) ≤ 60480) (hcw : ways (tR T) (tH T) ≤ cp) {M : rhM} {Q : List Nd} {at_ : Nat} {q : Nd} (hG : GI Γ M S F t cp Ln T L0 md Q) (hq : Q[at_]? = some q) (hno : ∀ L, L ∈ arrs Q → ¬ pM md L) (Qp : Int32 × rhM → Prop)
    (hN : ∀ M', Fr (W2 S F t) M M' → GI Γ M' S F t cp Ln T L0 md (growA T Q at_) → (∀ L', L' ∈ arrs (growA T Q at_) → ¬ pM md L') → (∀ j, j ≠ 0 → j ≠ 10 → M'.1 S j = M.1 S j) → Qp (-1, M'))
    (hM : ∀ M' Q' j L', Fr (W2 S F t) M M' → Q' <+: growA T Q at_ → Q'.length = j + 1 → (arrs Q')[j]? = some L' → fmt (pM md) Q' = some j → GI Γ M' S F t cp Ln T L0 md Q' → (∀ j, j ≠ 0 → j ≠ 10 → M'.1 S j = M.1 S j) → Qp (J (nm (tR T) (tH T) L' : Nat), M')) :
    wp (f_X5_goOn Γ M S (J (nm (tR T) (tH T) q.1 : Nat))) Qp := by
  have w1 := hw.1
  have w2 := hw.2.1
  have hgrow : growA T Q at_ = putL q.1 at_ q.2.2.2 (pulls T q.1) Q := by unfold growA; rw [hq]
  rw [hgrow] at hN hM
  have hG0 := hG
  obtain ⟨hSI, hQW, hFA, hBM⟩ := hG
  obtain ⟨hS, hT5, hts, hT, hP, hNT, hF0⟩ := hSI
  have hS0 := hS
  have hxb := hS.xb
  obtain ⟨kS, ⟨f1, f2, f3, f4⟩, hNs, sS, sF, ⟨k11, r11, k12, n12⟩, dF, hS18, hcp, hLn⟩ := hS
  have hQL := hQW.len w2 hRH
  have hil := (List.getElem?_eq_some_iff.mp hq).1
  have hqm : q.1 ∈ arrs Q := List.mem_map.mpr ⟨q, List.mem_of_getElem? hq, rfl⟩
  have wL := hQW.2.1 _ hqm
  have h32 := pulls_len w1 w2 wL
  rw [f_X5_goOn, wp_ck_t kS, f2, wp_ck_t hNs.1, c_stWord hNs hNT h4 h6 hRH wL, wp_bind, wp_some, f4, wp_ck_t sS.1, hT5, wp_bind]
  refine (c_look (t := t) sS w1 w2 wL hRH hts.1 (by simp; omega) hT.1 hT.2.1).mono (fun M1 h1 => ?_)
  obtain ⟨F1, A1, -⟩ := h1
  have sS1 := sS.fr F1.1
  have hT1 : TC M1 t T := hT.fr F1 (fun r hr => by simp only [List.mem_cons, List.not_mem_nil, or_false] at hr ⊢; omega)
  have hP1 : PA Γ M1 (S + 11) (S + 12) Ln t T := hP.fr F1 (by simp)
  have hI1 : IV Γ M1 (S + 13) t (S + 11) (S + 12) Ln T q.1 := ⟨sS1, A1, hts.fr F1.1, hT1, hP1⟩
  rw [F1.1, f4, wp_ck_t sS.1, f3, wp_bind]
  refine (c_listPulls hw wL (by unfold dis; rw [hxb]; omega) hI1).mono (fun M2 h2 => ?_)
  obtain ⟨F2, I2, L2⟩ := h2
  have F12 : Fr ([S + 13, S + 14, S + 15, S + 16] ++ WP (S + 13) t (S + 12)) M M2 := (F1.sub (by intro r hr; exact List.mem_append_left _ hr)).trans (F2.sub (by intro r hr; exact List.mem_append_right _ hr))
  have hNT2 : NT M2 (S + 7) (tR T) (tH T) := hNT.fr F12 (by unfold WP; rw [hxb]; simp; omega) (by unfold WP; rw [hxb]; simp; omega) (by unfold WP; rw [hxb]; simp; omega) (by unfold WP; rw [hxb]; simp; omega)
  have hok : ∀ a, a ∈ pulls T q.1 → a.1 < tR T ∧ a.2.2 < tR T ∧ a.1 ≠ a.2.2 ∧ a.2.1 ≤ (rl q.1 a.1).length := fun a ha => by
    have := (pulls_ok ha).1
    exact ⟨this.1, this.2.1, this.2.2.1, this.2.2.2.2⟩
  rw [F12.1, f2, wp_ck_t hNs.1, f4, wp_bind]
  refine (c_follow (n := S + 7) (s := S + 13) w1 h6 wL (hNs.fr F12.1) hNT2 I2.1 (by omega) h32 hok L2).mono (fun M3 h3 => ?_)
  obtain ⟨F3, N3⟩ := h3
  rw [hxb] at F3
  have F3W : Fr (W2 S F t) M2 M3 := F3.sub (by unfold W2; simp)
  have F12W : Fr (W2 S F t) M M2 := F12.sub (by unfold W2 WP; rw [hxb]; simp)
  have F13W := F12W.trans F3W
  have F13 : Fr ([S + 22] ++ ([S + 13, S + 14, S + 15, S + 16] ++ WP (S + 13) t (S + 12))) M M3 := (F12.sub (by intro r hr; exact List.mem_append_right _ hr)).trans (F3.sub (by intro r hr; exact List.mem_append_left _ (by simpa using hr)))
  have hFo : ∀ k, k ≤ 5 → F + k ∉ [S + 22] ++ ([S + 13, S + 14, S + 15, S + 16] ++ WP (S + 13) t (S + 12)) := fun k hk => by unfold WP; rw [hxb]; simp; omega
  have hSo : S ∉ [S + 22] ++ ([S + 13, S + 14, S + 15, S + 16] ++ WP (S + 13) t (S + 12)) := by unfold WP; rw [hxb]; simp; omega
  have eS : M3.1 S = M.1 S := F13.i hSo
  have eSl : M3.2.1 S = M.2.1 S := F13.l hSo
  have hFA3 : FAq M3 F cp (tR T) (tH T) Q := hFA.fr F13 (hFo 0 (by omega)) (hFo 1 (by omega)) (hFo 2 (by omega)) (hFo 3 (by omega)) (hFo 4 (by omega)) (hFo 5 (by omega))
  have hn3 : ∀ k, k ≤ 8 → S + 13 + k ∉ [S + 20 + 2] := fun k hk => by simp; omega
  have hSI3 : SI Γ M3 S F t cp Ln T := by
    refine ⟨hS0.fr F13.1, by rw [F13.1]; exact hT5, hts.fr F13.1, I2.2.2.2.1.fr F3 (fun r hr => by simp only [List.mem_cons, List.not_mem_nil, or_false] at hr ⊢; omega), I2.2.2.2.2.fr F3 (by first | (simp; done) | (simp; omega)), hNT2.fr F3 (by simp) (by simp) (by simp) (by simp), ?_⟩
    rw [show M3.1 F = M.1 F from F13.i (hFo 0 (by omega))]; exact hF0
  have hG3 : GI Γ M3 S F t cp Ln T L0 md Q := ⟨hSI3, hQW, hFA3, hBM.fr eS eSl⟩
  have hA3 : SA M3 (S + 13) (tR T) q.1 := I2.2.1.ex (by rw [F3.i (hn3 0 (by omega))]) (F3.l (hn3 0 (by omega))) (F3.i (hn3 1 (by omega))) (F3.i (hn3 2 (by omega))) (F3.i (hn3 3 (by omega)))
  have hL3 : LPu M3 (S + 13) q.1 (pulls T q.1) := L2.fr F3 (hn3 0 (by omega)) (hn3 5 (by omega)) (hn3 6 (by omega)) (by rw [hxb]; exact hn3 7 (by omega)) (by rw [hxb]; exact hn3 8 (by omega))
  exact c_go44 hw h4 h6 hRH d h60 hcw rfl Qp (pulls T q.1) rhFU M3 0 Q rfl (Nat.zero_le _) h32 hG3 hA3 hL3 N3 hq hno (by have := FU_big2; omega)
    (fun M' b1 b2 b3 b4 => hN M' (F13W.trans (b1.sub (W12 S F t))) b2 b3 (fun j x y => by rw [b4 j x y, eS]))
    (fun M' Q' j L' b1 b2 b3 b7 b4 b5 b6 => hM M' Q' j L' (F13W.trans (b1.sub (W12 S F t))) b2 b3 b7 b4 b5 (fun j x y => by rw [b6 j x y, eS]))
end
