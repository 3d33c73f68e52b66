/-! GOING ON FROM A STATE BY WEIGHT, IN THE CLASS -/
/-- what waits: just the nodes that are not done -/
def Wt (M : rhM) (F cp R H : Nat) (N : List Wn) (dn : Nat → Prop) (lst : Nat → List Nat) (wt : Nat → Nat) (n : Nat) : Prop := WL M F cp lst wt n ∧ (∀ (j : Nat) (q : Wn), N[j]? = some q → M.1 (F + 4) (nm R H q.1) = J q.2.1.1 ∧ wt (nm R H q.1) = q.2.1.1 ∧ (dn j ∨ nm R H q.1 ∈ lst (q.2.1.1 % 1024))) ∧ ∀ k, k < 1024 → ∀ x, x ∈ lst k → ∃ (j : Nat) (q : Wn), N[j]? = some q ∧ nm R H q.1 = x ∧ ¬ dn j
def GW (Γ : rhG) (M : rhM) (S F t cp Ln : Nat) (T : Tn) (N : List Wn) (dn : Nat → Prop) (lst : Nat → List Nat) (wt : Nat → Nat) (n : Nat) : Prop := SI Γ M S F t cp Ln T ∧ FNw M F (tR T) (tH T) N ∧ FX M F (tR T) (tH T) (arw N) ∧ Wt M F cp (tR T) (tH T) N dn lst wt n
theorem arw_app (A B : List Wn) : arw (A ++ B) = arw A ++ arw B := by simp [arw]
theorem arw_len (N : List Wn) : (arw N).length = N.length := by simp [arw]
theorem arw_set {N : List Wn} {i : Nat} {y q : Wn} (hy : N[i]? = some y) (e : q.1 = y.1) : arw (N.set i q) = arw N := by
  have hil := (List.getElem?_eq_some_iff.mp hy).1
  apply List.ext_getElem?
  intro j
  unfold arw
  rw [List.getElem?_map, List.getElem?_map]
  by_cases c : j = i
  · rw [c, List.getElem?_set_self hil, hy]; simp [e]
  · rw [List.getElem?_set_ne (Ne.symm c)]
theorem arw_at {N : List Wn} {X : Ar} (h : X ∈ arw N) : ∃ (j : Nat) (q : Wn), N[j]? = some q ∧ q.1 = X := by
  unfold arw at h
  obtain ⟨q, hq, e⟩ := List.mem_map.mp h
  obtain ⟨j, hj, e2⟩ := List.getElem_of_mem hq
  exact ⟨j, q, by rw [List.getElem?_eq_getElem hj, e2], e⟩
theorem NI.pidx {T : Tn} {L0 : Ar} {N : List Wn} {dn : Nat → Prop} (h : NI T L0 N dn) {j : Nat} {q : Wn} (hq : N[j]? = some q) : q.2.2.1.toNat < N.length ∧ WA (tR T) (tH T) ((arw N).getD q.2.2.1.toNat []) := by
  have h0 := (List.getElem?_eq_some_iff.mp h.1).1
  have key : ∀ i, i < N.length → WA (tR T) (tH T) ((arw N).getD i []) := fun i hi => by
    rw [arw_gd (List.getElem?_eq_getElem hi)]
    exact h.2.1 i _ (List.getElem?_eq_getElem hi)
  by_cases c : 0 < j
  · obtain ⟨i, pq, a, h1, -, h3, -⟩ := h.2.2.2 j q hq c
    have := (List.getElem?_eq_some_iff.mp h1).1
    have e : q.2.2.1.toNat = i := by rw [h3]; rfl
    rw [e]; exact ⟨this, key i this⟩
  · rw [show j = 0 by omega, h.1] at hq
    cases hq
    exact ⟨h0, key 0 h0⟩
section
variable {R H : Nat} {M M' : rhM} {F cp : Nat} {N N' : List Wn}
theorem FNw.new (hF : FNw M F R H N) (hX : FX M F R H (arw N)) (hH : H ≤ 8) (hRH : 0 < H → 0 < R) (h60 : ways R H ≤ 60480) (hv : ∀ (j : Nat) (q : Wn), N[j]? = some q → WA R H q.1) (hpar : ∀ (j : Nat) (q : Wn), N[j]? = some q → WA R H ((arw N).getD q.2.2.1.toNat [])) {L : Ar} (wL : WA R H L) : (M.2.1 (F + 3) (nm R H L) = -1) ↔ L ∉ arw N := by
  constructor
  · intro h hm
    obtain ⟨j, q, hq, rfl⟩ := arw_at hm
    obtain ⟨a1, a2, a3⟩ := hF j q hq
    rw [a1] at h
    have := nm_lt (hpar j q hq) hH hRH
    exact ld_new a3 (by omega) a2 h
  · intro h
    refine hX _ (nm_lt wL hH hRH) (fun L' hL' e => h ?_)
    obtain ⟨j, q, hq, rfl⟩ := arw_at hL'
    exact nm_inj (hv j q hq) wL hH hRH e ▸ hL'
theorem FNw_upd (h : FNw M F R H N) (hH : H ≤ 8) (hRH : 0 < H → 0 < R) (hv : ∀ (j : Nat) (p : Wn), N[j]? = some p → WA R H p.1) (hpi : ∀ (j : Nat) (p : Wn), N[j]? = some p → p.2.2.1.toNat < N.length) {q : Wn} (wX : WA R H q.1) {P : Ar} (hl : ∀ j, M'.2.1 (F + 3) j = if j = nm R H q.1 then jl (ld q.2.1.2.length (nm R H P) q.2.2.2) else M.2.1 (F + 3) j) (hqc : q.2.2.2 < 512) (hql : q.2.1.2.length ≤ 60480)
    (hP : (arw N').getD q.2.2.1.toNat [] = P) (hpre : ∀ i, i < N.length → (arw N').getD i [] = (arw N).getD i []) (hN : ∀ (j : Nat) (p : Wn), N'[j]? = some p → p = q ∨ (p.1 ≠ q.1 ∧ N[j]? = some p)) : FNw M' F R H N' := by
  intro j p hp
  rcases hN j p hp with rfl | ⟨c, hp'⟩
  · rw [hl, if_pos rfl, hP]; exact ⟨rfl, hqc, hql⟩
  · rw [hl, if_neg (fun e => c (nm_inj (hv j p hp') wX hH hRH e)), hpre _ (hpi j p hp')]; exact h j p hp'
theorem FX_upd (h : FX M F R H (arw N)) {X : Ar} {v : Int64} (hl : ∀ j, M'.2.1 (F + 3) j = if j = nm R H X then v else M.2.1 (F + 3) j) (hX : X ∈ arw N') (hsub : ∀ A, A ∈ arw N → A ∈ arw N') : FX M' F R H (arw N') := by
  intro k hk hno
  rw [hl, if_neg (fun e => hno X hX e.symm)]
  exact h k hk (fun A hA => hno A (hsub A hA))
theorem Wt_new {dn : Nat → Prop} {lst : Nat → List Nat} {wt : Nat → Nat} {n m : Nat} {q : Wn} (h : Wt M F cp R H N dn lst wt n) (hH : H ≤ 8) (hRH : 0 < H → 0 < R) (hv : ∀ (j : Nat) (p : Wn), N[j]? = some p → WA R H p.1) (wX : WA R H q.1) (hn : q.1 ∉ arw N) (hdl : ∀ j, dn j → j < N.length)
    (hW : WL M' F cp (uN lst (q.2.1.1 % 1024) (lst (q.2.1.1 % 1024) ++ [nm R H q.1])) (uN wt (nm R H q.1) q.2.1.1) m) (h4 : ∀ j, j ≠ nm R H q.1 → M'.1 (F + 4) j = M.1 (F + 4) j) (h4x : M'.1 (F + 4) (nm R H q.1) = J q.2.1.1) :
    Wt M' F cp R H (N ++ [q]) dn (uN lst (q.2.1.1 % 1024) (lst (q.2.1.1 % 1024) ++ [nm R H q.1])) (uN wt (nm R H q.1) q.2.1.1) m := by
  have hne : ∀ (j : Nat) (p : Wn), N[j]? = some p → nm R H p.1 ≠ nm R H q.1 := fun j p hp e => hn (by
    rw [← nm_inj (hv j p hp) wX hH hRH e]
    exact List.mem_map.mpr ⟨p, List.mem_of_getElem? hp, rfl⟩)
  have hnew : (N ++ [q])[N.length]? = some q := by rw [List.getElem?_append_right (Nat.le_refl _), Nat.sub_self]; rfl
  refine ⟨hW, fun j p hp => ?_, fun k hk x hx => ?_⟩
  · by_cases c : j < N.length
    · rw [List.getElem?_append_left c] at hp
      obtain ⟨z1, z2, z3⟩ := h.2.1 j p hp
      have := hne j p hp
      rw [h4 _ this, uN_ne _ _ this]
      refine ⟨z1, z2, z3.imp id (fun z => ?_)⟩
      by_cases c2 : p.2.1.1 % 1024 = q.2.1.1 % 1024
      · rw [c2, uN_eq]; rw [c2] at z; exact List.mem_append_left _ z
      · rw [uN_ne _ _ c2]; exact z
    · have hjl := (List.getElem?_eq_some_iff.mp hp).1
      rw [List.length_append, List.length_singleton] at hjl
      rw [show j = N.length by omega, hnew] at hp
      cases hp
      rw [h4x, uN_eq, uN_eq]
      exact ⟨rfl, rfl, Or.inr (by simp)⟩
  · have old : ∀ x, x ∈ lst k → ∃ (j : Nat) (p : Wn), (N ++ [q])[j]? = some p ∧ nm R H p.1 = x ∧ ¬ dn j := fun x hx => by
      obtain ⟨j, p, g1, g2, g3⟩ := h.2.2 k hk x hx
      exact ⟨j, p, by rw [List.getElem?_append_left (List.getElem?_eq_some_iff.mp g1).1]; exact g1, g2, g3⟩
    by_cases c : k = q.2.1.1 % 1024
    · rw [c, uN_eq] at hx
      rcases List.mem_append.mp hx with hx | hx
      · rw [← c] at hx; exact old x hx
      · rw [List.mem_singleton] at hx
        exact ⟨N.length, q, hnew, hx.symm, fun hd => by have := hdl _ hd; omega⟩
    · rw [uN_ne _ _ c] at hx; exact old x hx
theorem Wt_set {dn : Nat → Prop} {lst : Nat → List Nat} {wt : Nat → Nat} {n m iy : Nat} {q y : Wn} (h : Wt M F cp R H N dn lst wt n) (hH : H ≤ 8) (hRH : 0 < H → 0 < R) (hv : ∀ (j : Nat) (p : Wn), N[j]? = some p → WA R H p.1) (nd : (N.map fun q => q.1).Nodup) (hy : N[iy]? = some y) (hyq : q.1 = y.1) (hnd : ¬ dn iy) {A B : List Nat} {ky : Nat} (hAB : lst ky = A ++ nm R H y.1 :: B)
    (hW : WL M' F cp (uN (uN lst ky (A ++ B)) (q.2.1.1 % 1024) (uN lst ky (A ++ B) (q.2.1.1 % 1024) ++ [nm R H q.1])) (uN wt (nm R H q.1) q.2.1.1) m) (h4 : ∀ j, j ≠ nm R H q.1 → M'.1 (F + 4) j = M.1 (F + 4) j) (h4x : M'.1 (F + 4) (nm R H q.1) = J q.2.1.1) :
    Wt M' F cp R H (N.set iy q) dn (uN (uN lst ky (A ++ B)) (q.2.1.1 % 1024) (uN lst ky (A ++ B) (q.2.1.1 % 1024) ++ [nm R H q.1])) (uN wt (nm R H q.1) q.2.1.1) m := by
  have hil := (List.getElem?_eq_some_iff.mp hy).1
  have hne : ∀ (j : Nat) (p : Wn), N[j]? = some p → j ≠ iy → nm R H p.1 ≠ nm R H q.1 := fun j p hp hj e => by
    rw [hyq] at e
    have e1 := nm_inj (hv j p hp) (hv iy y hy) hH hRH e
    have g1 : (N.map fun q => q.1)[j]? = some p.1 := by rw [List.getElem?_map, hp]; rfl
    have g2 : (N.map fun q => q.1)[iy]? = some p.1 := by rw [List.getElem?_map, hy, e1]; rfl
    exact hj ((List.getElem?_inj (List.getElem?_eq_some_iff.mp g1).1 nd).mp (g1.trans g2.symm))
  refine ⟨hW, fun j p hp => ?_, fun k hk x hx => ?_⟩
  · by_cases c : j = iy
    · rw [c, List.getElem?_set_self hil] at hp
      cases hp
      rw [h4x, uN_eq, uN_eq]
      exact ⟨rfl, rfl, Or.inr (by simp)⟩
    · rw [List.getElem?_set_ne (Ne.symm c)] at hp
      obtain ⟨z1, z2, z3⟩ := h.2.1 j p hp
      have hq := hne j p hp c
      rw [h4 _ hq, uN_ne _ _ hq]
      refine ⟨z1, z2, z3.imp id (fun z => ?_)⟩
      have zz : nm R H p.1 ∈ uN lst ky (A ++ B) (p.2.1.1 % 1024) := by
        by_cases c2 : p.2.1.1 % 1024 = ky
        · rw [c2, uN_eq]
          rw [c2, hAB] at z
          simp only [List.mem_append, List.mem_cons] at z ⊢
          rcases z with z | z | z
          · exact Or.inl z
          · exact absurd (z.trans (by rw [hyq])) hq
          · exact Or.inr z
        · rw [uN_ne _ _ c2]; exact z
      by_cases c3 : p.2.1.1 % 1024 = q.2.1.1 % 1024
      · rw [c3, uN_eq]; rw [c3] at zz; exact List.mem_append_left _ zz
      · rw [uN_ne _ _ c3]; exact zz
  · have base : ∀ k', k' < 1024 → x ∈ uN lst ky (A ++ B) k' → ∃ (j : Nat) (p : Wn), (N.set iy q)[j]? = some p ∧ nm R H p.1 = x ∧ ¬ dn j := fun k' hk' hx' => by
      have hx2 : x ∈ lst k' := by
        by_cases c : k' = ky
        · rw [c, uN_eq] at hx'
          rw [c, hAB]
          simp only [List.mem_append, List.mem_cons] at hx' ⊢
          rcases hx' with h | h
          · exact Or.inl h
          · exact Or.inr (Or.inr h)
        · rw [uN_ne _ _ c] at hx'; exact hx'
      obtain ⟨j, p, g1, g2, g3⟩ := h.2.2 k' hk' x hx2
      by_cases c : j = iy
      · subst c
        rw [hy] at g1; cases g1
        exact ⟨j, q, by rw [List.getElem?_set_self hil], by rw [hyq]; exact g2, g3⟩
      · exact ⟨j, p, by rw [List.getElem?_set_ne (Ne.symm c)]; exact g1, g2, g3⟩
    by_cases c : k = q.2.1.1 % 1024
    · rw [c, uN_eq] at hx
      rcases List.mem_append.mp hx with hx | hx
      · exact base _ (Nat.mod_lt _ (by decide)) hx
      · rw [List.mem_singleton] at hx
        exact ⟨iy, q, by rw [List.getElem?_set_self hil], hx.symm, hnd⟩
    · rw [uN_ne _ _ c] at hx; exact base k hk hx
end
section
variable {Γ : rhG} {T : Tn} {S F t cp Ln : Nat} {L0 : Ar}
theorem cd_lt {T : Tn} {L : Ar} (hw : TWf T) (wL : WA (tR T) (tH T) L) {a : Tr} (ha : a ∈ pulls T L) : cdT a < 1000 := by
  obtain ⟨a1, a2, a3, a4, a5⟩ := (pulls_ok ha).1
  have x1 := wL.rl_len a1
  have w1 := hw.1
  have w2 := hw.2.1
  unfold cdT; omega
theorem c_better (hw : TWf T) (h6 : tH T ≤ 6) (hRH : 0 < tH T → 0 < tR T) {M : rhM} (sF : FSh Γ M F cp) (hcp : cp ≤ 60480) (hcw : ways (tR T) (tH T) ≤ cp) (w0 : WA (tR T) (tH T) L0) {N : List Wn} {dn : Nat → Prop} (hNI : NI T L0 N dn) (hF : FNw M F (tR T) (tH T) N) {i at_ : Nat} {y pq : Wn} {a : Tr} (hat : N[at_]? = some pq) (ha : a ∈ pulls T pq.1) (hy : N[i]? = some y) (hyL : y.1 = mvA pq.1 a) (hyw : M.1 (F + 4) (nm (tR T) (tH T) y.1) = J y.2.1.1) (hb1 : y.2.1.1 < 2147483648) (hb2 : (candK T pq a).1 < 2147483648) (hpos : 0 < (candK T pq a).1) :
    f_X0_isBetter Γ M F (J (nm (tR T) (tH T) y.1 : Nat)) (J (nm (tR T) (tH T) pq.1 : Nat)) (J (candK T pq a).1) = some (bi (klt (candK T pq a) y.2.1)) := by
  have w2 := hw.2.1
  have sF0 := sF
  obtain ⟨k0, -, -, -, ⟨k4, n4⟩, -, -, -, -, r3, -⟩ := sF
  have ly := nm_lt (hNI.2.1 i y hy) w2 hRH
  rw [f_X0_isBetter, rhck_t k0, r3, rhck_t k4, n4, J_toInt (by omega) (by omega), rhck_t (by omega), J_clamp (by omega) (by omega), Int.toNat_natCast, hyw]
  by_cases c : (candK T pq a).1 = y.2.1.1
  · have hi0 : 0 < i := by
      by_cases e : i = 0
      · rw [e, hNI.1] at hy; cases hy; dsimp only at c; omega
      · omega
    obtain ⟨kk, p, b, g1, -, g3, -⟩ := hNI.2.2.2 i y hy hi0
    have hbi := better_iff hw h6 w0 hNI hat ha hy hyL hi0 g3 g1 c
    obtain ⟨a1, a2, a3⟩ := hF i y hy
    have ep : (arw N).getD y.2.2.1.toNat [] = p.1 := by rw [g3, Int.toNat_natCast, arw_gd g1]
    have lp := nm_lt (hNI.2.1 kk p g1) w2 hRH
    rw [ep] at a1
    have hpa := c_parentOf sF0 hcp (show nm (tR T) (tH T) y.1 < cp by omega) a3 (show nm (tR T) (tH T) p.1 < 65536 by omega) a2 a1
    have hlead := c_isAhead sF0 hcp w2 hRH hcw hNI.2.1 hNI.2.2.1 hNI.pwt hF (fun j q hq => (hNI.pidx hq).2) hat g1
    rw [if_pos (by rw [c]), hpa, Option.bind_some, hlead, Option.bind_some, rhck_t (bi_01 _)]
    congr 2
    exact propext hbi.symm
  · rw [if_neg (by rw [J_eq (by omega) (by omega) (by omega) (by omega)]; omega)]
    by_cases c2 : (candK T pq a).1 < y.2.1.1
    · rw [if_pos (by rw [J_lt (by omega) (by omega) (by omega) (by omega)]; omega), bi_t (show klt (candK T pq a) y.2.1 from Or.inl c2)]
    · rw [if_neg (by rw [J_lt (by omega) (by omega) (by omega) (by omega)]; omega), bi_f]
      unfold klt; omega
theorem SI.fr1' {Γ : rhG} {M M' : rhM} (h : SI Γ M S F t cp Ln T) (d : t + 10 < S) (hF : Fr [F, F + 1, F + 2, F + 3, F + 4, F + 5] M M') (h0 : M'.1 F 0 = M.1 F 0) : SI Γ M' S F t cp Ln T := h.fr1 d (hF.sub (by unfold W1; simp)) h0
set_option maxHeartbeats 8000000 in
theorem c_wo53 (hw : TWf T) (hRH : 0 < tH T → 0 < tR T) (hr4 : tR T ≤ 4) (h6 : tH T ≤ 6) (d : t + 10 < S) (w0 : WA (tR T) (tH T) L0) (h60 : ways (tR T) (tH T) ≤ 60480) (hcw : ways (tR T) (tH T) ≤ cp) {L : Ar} {at_ W : Nat} {pq : Wn} (hpL : pq.1 = L) (hpw : pq.2.1.1 = W) (hW36 : W ≤ 40000000) (Q : rhM → Prop) : ∀ (rest : List Tr) (k : Nat) (M : rhM) (i : Nat) (N : List Wn) (dn : Nat → Prop) (lst : Nat → List Nat) (wt : Nat → Nat) (n : Nat),
    (pulls T L).drop i = rest → i ≤ (pulls T L).length → (pulls T L).length ≤ 32 → GW Γ M S F t cp Ln T N dn lst wt n → LPu M (S + 13) L (pulls T L) → LPn M (S + 13) (tR T) (tH T) L (pulls T L) → NI T L0 N dn → Wd N dn W → N[at_]? = some pq → dn at_ → (∀ j, dn j → j < N.length) → (∃ D : List Nat, D.Nodup ∧ (∀ j, dn j ↔ j ∈ D) ∧ n + D.length = N.length) → rest.length < k →
    (∀ M' N' lst' wt' n', Fr [F, F + 1, F + 2, F + 3, F + 4, F + 5] M M' → GW Γ M' S F t cp Ln T N' dn lst' wt' n' → NI T L0 N' dn → Wd N' dn W → Later dn N N' → N.length ≤ N'.length → n' + N.length = n + N'.length → (∀ a, a ∈ rest → ∃ (i : Nat) (y : Wn), N'[i]? = some y ∧ y.1 = mvA pq.1 a ∧ kle y.2.1 (candK T pq a)) → (∀ x, x ∈ lst' (W % 1024) ↔ x ∈ lst (W % 1024)) → Q M') →
    wp (f_X5_weighOn_53 Γ k M S (J (nm (tR T) (tH T) L : Nat)) (J W) (J i)) Q := by
  have w1 := hw.1
  have w2 := hw.2.1
  intro rest
  induction rest with
  | nil =>
    intro k M i N dn lst wt n hd hi h32 hG hLP hLN hNI hWd hat hdn hdl hcnt hk hQ
    obtain ⟨k, rfl⟩ : ∃ m, k = m + 1 := ⟨k - 1, by omega⟩
    have hlen := congrArg List.length hd
    rw [List.length_drop] at hlen
    simp only [List.length_nil] at hlen
    have hS := hG.1.1
    rw [f_X5_weighOn_53, wp_ck_t hS.1, hS.2.1.2.2.2, wp_ck_t hS.2.2.2.1.1, hLP.1, wp_ite_f (by rw [J_lt (by omega) (by omega) (by omega) (by omega)]; omega), wp_some]
    exact hQ M N lst wt n (Fr.refl _ _) hG hNI hWd (Later.refl _ _) (Nat.le_refl _) rfl (fun a ha => by cases ha) (fun _ => Iff.rfl)
  | cons a rest ih =>
    intro k M i N dn lst wt n hd hi h32 hG hLP hLN hNI hWd hat hdn hdl hcnt hk hQ
    obtain ⟨k, rfl⟩ : ∃ m, k = m + 1 := ⟨k - 1, by omega⟩
    rw [List.length_cons] at hk
    have hlen := congrArg List.length hd
    rw [List.length_drop, List.length_cons] at hlen
    have hai : (pulls T L)[i]? = some a := by
      have := List.getElem?_drop (xs := pulls T L) (i := i) (j := 0)
      rw [hd, Nat.add_zero] at this; rw [← this]; rfl
    have hnext : (pulls T L).drop (i + 1) = rest := by
      have := congrArg (List.drop 1) hd
      rw [List.drop_drop] at this; simpa using this
    have hG0 := hG
    obtain ⟨hSI, hFN, hFX, hWt⟩ := hG
    have hSI0 := hSI
    obtain ⟨hS, hT5, hts, hT, hP, hNT, hF0⟩ := hSI
    have hxb := hS.xb
    obtain ⟨kS, ⟨f1, f2, f3, f4⟩, hNs, sS, sF, -, dF, hS18, hcp, hLn⟩ := hS
    obtain ⟨ks0, -, -, -, -, ⟨k5, n5⟩, ⟨k6, n6⟩, -, -, -, -, g7, g8, -, -, ⟨x9, y9⟩, -, -, g11⟩ := sS
    rw [hxb] at x9 y9 g11
    have hap : a ∈ pulls T L := List.mem_of_getElem? hai
    have hap' : a ∈ pulls T pq.1 := by rw [hpL]; exact hap
    have wL : WA (tR T) (tH T) L := hpL ▸ hNI.2.1 _ _ hat
    have wa := pulls_WA wL hap
    have hwt := wt_rng hw h6 wL hap
    have hcw1 : (candK T pq a).1 = W + wtA T L a := by unfold candK; rw [hpL]; dsimp only; omega
    have hpar := fun (j : Nat) (q : Wn) (hq : N[j]? = some q) => (hNI.pidx hq).2
    have hvA : ∀ A, A ∈ arw N → WA (tR T) (tH T) A := fun A hA => by
      obtain ⟨j, q, hq, rfl⟩ := arw_at hA
      exact hNI.2.1 j q hq
    have hNl : N.length ≤ ways (tR T) (tH T) := by rw [← arw_len]; exact few w2 hRH hvA hNI.2.2.1
    have hlt := nm_lt wa w2 hRH
    have hltL := nm_lt wL w2 hRH
    have hcd := cd_511 hr4 h6 wL hap
    have hpn := hLN i a hai
    rw [hxb] at hpn
    obtain ⟨hpc, hpd, -, -⟩ := hLP.2 i a hai
    have hnew := hFN.new hFX w2 hRH h60 hNI.2.1 hpar wa
    have hok := (pulls_ok hap).1
    have hsgH : ∀ x, x ∈ sg L a.1 a.2.1 → x < tH T := fun x hx => wL.lt.mp (rl_sub (List.mem_of_mem_drop hx))
    have hsg : ss (sg L a.1 a.2.1) < 2 ^ tH T := ss_lt hsgH
    have hp2 := pow_le w2
    have htw := hT.2.2.2.2.2.2.2.1 _ hsg
    rw [sm_perm _ (cl_perm (wL.sgnd hok.1) hsgH)] at htw
    have hts8 : M.2.2 t 8 = t + 3 := hts.2.2.2.2.2.2.2.2.2.2.2.1.2.2.1
    have hts3 := hts.2.2.2.1
    have hx20 : J W + J (sm (tw T) (sg L a.1 a.2.1) : Nat) = J ((candK T pq a).1 : Nat) := by rw [J_add, hcw1]; rfl
    obtain ⟨hat1, hat2, hat3⟩ := hFN at_ pq hat
    rw [hpL] at hat1
    have hlpp := nm_lt (hpar at_ pq hat) w2 hRH
    have hpt : f_X0_pullsTo Γ M F (J (nm (tR T) (tH T) L : Nat)) = some (J pq.2.1.2.length) := c_pullsTo sF hcp (by omega) hat3 (by omega) hat2 hat1
    have hclen : (candK T pq a).2.length ≤ 60480 := by
      have := hNI.len hat
      unfold candK; rw [List.length_cons]; omega
    have hcl1 : (candK T pq a).2.length = pq.2.1.2.length + 1 := by unfold candK; rw [List.length_cons]
    obtain ⟨D, D1, D2, D3⟩ := hcnt
    have hmodv : (candK T pq a).1 % 1024 ≠ W % 1024 := by rw [hcw1]; omega
    have hWdn : ∀ N', Wd N' (fun j => dn j ∧ j < N.length) W → Wd N' dn W := fun N' h j q hq => ⟨fun x => (h j q hq).1 ⟨x, hdl j x⟩, fun x => (h j q hq).2 (fun y => x y.1)⟩
    have hn60 : n < 60480 := by
      have := List.length_pos_of_mem ((D2 at_).mp hdn); omega
    have hout : ∀ k, k ≤ 9 → S + 13 + k ∉ [F, F + 1, F + 2, F + 3, F + 4, F + 5] := fun k hk => by simp; omega
    have hLPfr : ∀ M4, Fr [F, F + 1, F + 2, F + 3, F + 4, F + 5] M M4 → LPu M4 (S + 13) L (pulls T L) ∧ LPn M4 (S + 13) (tR T) (tH T) L (pulls T L) := fun M4 F4 => by
      refine ⟨hLP.fr F4 (hout 0 (by omega)) (hout 5 (by omega)) (hout 6 (by omega)) (by rw [hxb]; exact hout 7 (by omega)) (by rw [hxb]; exact hout 8 (by omega)), ?_⟩
      have hLN' := hLN
      unfold LPn at hLN' ⊢
      rw [show xb (S + 13) + 2 = S + 13 + 9 by rw [hxb]] at hLN' ⊢
      rw [F4.i (hout 9 (by omega))]; exact hLN'
    rw [f_X5_weighOn_53, wp_ck_t kS, f4, wp_ck_t ks0, hLP.1, wp_ite_t (by rw [J_lt (by omega) (by omega) (by omega) (by omega)]; omega), hT5, wp_ck_t hts.1, g8, wp_ck_t k6, n6, J_toInt (show -2147483648 ≤ (i : Int) by omega) (by omega), wp_ck_t (by omega), hts8, wp_ck_t hts3.1, hts3.2, J_clamp (show -2147483648 ≤ (i : Int) by omega) (by omega), Int.toNat_natCast, hpd]
    rw [J_toInt (show -2147483648 ≤ (ss (sg L a.1 a.2.1) : Int) by omega) (by omega), wp_ck_t (by omega), J_clamp (show -2147483648 ≤ (ss (sg L a.1 a.2.1) : Int) by omega) (by omega), Int.toNat_natCast, htw, hx20, g11]
    dsimp only
    rw [show S + 20 + 2 = S + 22 by omega] at x9 y9 hpn ⊢
    rw [wp_ck_t x9, y9, wp_ck_t (by omega), f1, wp_ck_t sF.1, hpn, c_isNew sF hcp hF0 (show nm (tR T) (tH T) (mvA L a) < cp by omega), wp_bind, wp_some]
    by_cases cn : mvA L a ∈ arw N
    · -- a state that is known
      obtain ⟨iy, y, hy, hyL'⟩ := arw_at cn
      have hyL : y.1 = mvA pq.1 a := by rw [hyL', hpL]
      have hil := (List.getElem?_eq_some_iff.mp hy).1
      have hyw := hWt.2.1 iy y hy
      have hywb : y.2.1.1 < 2147483648 := by
        have := hWd iy y hy
        by_cases c : dn iy
        · have := this.1 c; omega
        · have := this.2 c; omega
      have hbet := c_better hw h6 hRH sF hcp hcw w0 hNI hFN hat hap' hy hyL hyw.1 hywb (by omega) (by omega)
      rw [hyL', hpL] at hbet
      rw [if_neg (fun h => hnew.mp h cn), wp_ite_t (show (0 : Int32) = 0 from rfl), hbet, wp_bind, wp_some]
      by_cases cb : klt (candK T pq a) y.2.1
      · obtain ⟨q, hqd⟩ : ∃ q : Wn, q = (mvA pq.1 a, candK T pq a, (at_ : Int), cdT a) := ⟨_, rfl⟩
        have hRX : RX T at_ pq a N (N.set iy q) := Or.inr (Or.inl ⟨iy, y, hy, hyL, cb, by rw [hqd]⟩)
        obtain ⟨x1, x2, x3, x4, x5⟩ := RX_ok hw h6 hNI hWd hat hdn hpw hap' hRX
        have hyW : W < y.2.1.1 := by
          have : (candK T pq a).1 ≤ y.2.1.1 := kle_w (fun h => klt_irr _ (klt_tr cb h))
          omega
        have hdnum : ¬ dn iy := fun h => by have := (hWd iy y hy).1 h; omega
        have hyup := ((hWd iy y hy).2 hdnum).2
        have hmem : nm (tR T) (tH T) y.1 ∈ lst (y.2.1.1 % 1024) := hyw.2.2.resolve_left hdnum
        have hnat : at_ ≠ iy := fun e => hdnum (e ▸ hdn)
        have hne : nm (tR T) (tH T) (mvA L a) ≠ nm (tR T) (tH T) L := fun e => by
          have e1 := nm_inj wa wL w2 hRH e
          have g1 : (N.map fun q => q.1)[at_]? = some L := by rw [List.getElem?_map, hat]; simp [hpL]
          have g2 : (N.map fun q => q.1)[iy]? = some L := by rw [List.getElem?_map, hy]; simp [hyL', e1]
          exact hnat ((List.getElem?_inj (List.getElem?_eq_some_iff.mp g1).1 hNI.2.2.1).mp (g1.trans g2.symm))
        obtain ⟨A, B, hAB⟩ := List.append_of_mem hmem
        have hm1 : 1 ≤ n := by
          have hh := nd_len (n := N.length) (l := iy :: D) (List.nodup_cons.mpr ⟨fun h => hdnum ((D2 iy).mpr h), D1⟩) (fun x hx => by
            rcases List.mem_cons.mp hx with rfl | hx
            · exact hil
            · exact hdl x ((D2 x).mpr hx))
          rw [List.length_cons] at hh; omega
        obtain ⟨m, rfl⟩ : ∃ m, n = m + 1 := ⟨n - 1, by omega⟩
        rw [bi_t cb, wp_ite_f (show ¬ (1 : Int32) = 0 by decide), g7, wp_ck_t k5, n5, wp_ck_t (by omega), hpc, wp_bind]
        refine (c_lead sF hcp (x := nm (tR T) (tH T) (mvA L a)) (par := nm (tR T) (tH T) L) (p := (candK T pq a).2.length) (cd := cdT a) (by omega) (by omega) hcd hclen (Or.inr ⟨hne, pq.2.1.2.length, hcl1, hpt⟩)).mono (fun M2 h2 => ?_)
        obtain ⟨F2, i2, l2⟩ := h2
        have hWL2 : WL M2 F cp lst wt (m + 1) := hWt.1.fr F2 (by simp) (by simp) (by simp) (by simp) (by simp)
        rw [F2.1, f1, wp_ck_t sF.1, wp_bind]
        have hwy : wt (nm (tR T) (tH T) y.1) = y.2.1.1 := hyw.2.1
        have hAB' : lst (wt (nm (tR T) (tH T) (mvA L a)) % 1024) = A ++ nm (tR T) (tH T) (mvA L a) :: B := by rw [← hyL', hwy]; exact hAB
        refine c_wdrop (sF.fr F2.1) hcp hWL2 (by omega) hAB' _ (fun M3 F3 z3 h3 => ?_)
        have hWL3 := h3 m rfl
        have hnd0 := (hWt.1.2 _ (Nat.mod_lt (wt (nm (tR T) (tH T) (mvA L a))) (show 0 < 1024 by decide))).2.2.2.1
        rw [hAB', List.nodup_append, List.nodup_cons] at hnd0
        rw [F3.1, F2.1, f1, wp_ck_t sF.1, wp_bind]
        refine c_wput ((sF.fr F2.1).fr F3.1) hcp hWL3 (by omega) (x := nm (tR T) (tH T) (mvA L a)) (v := (candK T pq a).1) (by omega) (by omega) (fun k hk hx => ?_) _ (fun M4 F4 z4 hWL4 o4 v4 => ?_)
        · by_cases c : k = wt (nm (tR T) (tH T) (mvA L a)) % 1024
          · rw [c, uN_eq, List.mem_append] at hx
            rcases hx with hx | hx
            · exact hnd0.2.2 _ hx _ List.mem_cons_self rfl
            · exact hnd0.2.1.1 hx
          · rw [uN_ne _ _ c] at hx
            have := ((hWt.1.2 k hk).2.2.2.2 _ hx).2.1
            exact c this.symm
        · have F24 : Fr [F, F + 1, F + 2, F + 3, F + 4, F + 5] M M4 := (F2.sub (by simp)).trans ((F3.sub (by simp)).trans (F4.sub (by simp)))
          have hSI4 := hSI0.fr1' d F24 (by rw [z4, z3, i2])
          have hq1 : q.1 = mvA L a := by rw [hqd, hpL]
          have hqy : q.1 = y.1 := by rw [hq1, hyL']
          have hq2 : q.2.1 = candK T pq a := by rw [hqd]
          have hq3 : q.2.2.1 = (at_ : Int) := by rw [hqd]
          have hq4 : q.2.2.2 = cdT a := by rw [hqd]
          have harw : arw (N.set iy q) = arw N := arw_set hy hqy
          have l4 : ∀ j, M4.2.1 (F + 3) j = if j = nm (tR T) (tH T) q.1 then jl (ld q.2.1.2.length (nm (tR T) (tH T) L) q.2.2.2) else M.2.1 (F + 3) j := fun j => by
            rw [F4.l (by simp), F3.l (by simp), l2, hq1, hq2, hq4]
          have hFN4 : FNw M4 F (tR T) (tH T) (N.set iy q) := by
            refine FNw_upd hFN w2 hRH hNI.2.1 (fun j p hp => (hNI.pidx hp).1) (q := q) (by rw [hq1]; exact wa) l4 (by rw [hq4]; exact hcd) (by rw [hq2]; exact hclen) (by rw [harw, hq3, Int.toNat_natCast, arw_gd hat, hpL]) (fun i _ => by rw [harw]) (fun j p hp => ?_)
            by_cases c : j = iy
            · rw [c, List.getElem?_set_self hil] at hp; cases hp; exact Or.inl rfl
            · rw [List.getElem?_set_ne (Ne.symm c)] at hp
              refine Or.inr ⟨fun e => c ?_, hp⟩
              have g1 : (N.map fun q => q.1)[j]? = some p.1 := by rw [List.getElem?_map, hp]; rfl
              have g2 : (N.map fun q => q.1)[iy]? = some p.1 := by rw [List.getElem?_map, hy, e, hqy]; rfl
              exact (List.getElem?_inj (List.getElem?_eq_some_iff.mp g1).1 hNI.2.2.1).mp (g1.trans g2.symm)
          have hFX4 : FX M4 F (tR T) (tH T) (arw (N.set iy q)) := FX_upd hFX l4 (by rw [harw, hq1]; exact cn) (fun A hA => by rw [harw]; exact hA)
          have o4' : ∀ j, j ≠ nm (tR T) (tH T) q.1 → M4.1 (F + 4) j = M.1 (F + 4) j := fun j hj => by
            rw [hq1] at hj
            rw [o4 j hj, F3.i (by simp), i2]
          have hWt4 := Wt_set (M' := M4) (q := q) (m := m + 1) hWt w2 hRH hNI.2.1 hNI.2.2.1 hy hqy hdnum (A := A) (B := B) (ky := wt (nm (tR T) (tH T) (mvA L a)) % 1024) (by rw [hyL']; exact hAB') (by rw [hq1, hq2]; exact hWL4) o4' (by rw [hq1, hq2]; exact v4)
          have hk0 : wt (nm (tR T) (tH T) (mvA L a)) % 1024 ≠ W % 1024 := by rw [← hyL', hwy]; omega
          have hls : ∀ x, x ∈ uN (uN lst (wt (nm (tR T) (tH T) (mvA L a)) % 1024) (A ++ B)) (q.2.1.1 % 1024) (uN lst (wt (nm (tR T) (tH T) (mvA L a)) % 1024) (A ++ B) (q.2.1.1 % 1024) ++ [nm (tR T) (tH T) q.1]) (W % 1024) ↔ x ∈ lst (W % 1024) := fun x => by
            rw [uN_ne _ _ (by rw [hq2]; exact Ne.symm hmodv), uN_ne _ _ (Ne.symm hk0)]
          have hat4 : (N.set iy q)[at_]? = some pq := by rw [List.getElem?_set_ne (Ne.symm hnat)]; exact hat
          rw [f_X5_weighOn_195, show (1 : Int32) = J 1 from rfl, J_add, J_suc]
          refine ih k M4 (i + 1) _ dn _ _ (m + 1) hnext (by omega) h32 ⟨hSI4, hFN4, hFX4, hWt4⟩ (hLPfr M4 F24).1 (hLPfr M4 F24).2 x1 (hWdn _ x2) hat4 hdn (fun j hj => by rw [List.length_set]; exact hdl j hj) ⟨D, D1, D2, by rw [List.length_set]; exact D3⟩ (by omega) (fun M' N' lst' wt' n' b1 b2 b3 b4 b5 b6 b7 b8 b9 => hQ M' N' lst' wt' n' (F24.trans b1) b2 b3 b4 (x3.trans b5) (by rw [List.length_set] at b6; exact b6) (by rw [List.length_set] at b7; exact b7) (fun a' ha' => ?_) (fun x => (b9 x).trans (hls x)))
          rcases List.mem_cons.mp ha' with rfl | ha'
          · obtain ⟨i', y', y1, y2, y3⟩ := x4
            obtain ⟨-, z, z1, z2, z3⟩ := b5 i' y' y1
            exact ⟨i', z, z1, z2.trans y2, kle_tr z3 y3⟩
          · exact b8 a' ha'
      · rw [bi_f cb, wp_ite_t rfl, f_X5_weighOn_195, show (1 : Int32) = J 1 from rfl, J_add, J_suc]
        refine ih k M (i + 1) N dn lst wt n hnext (by omega) h32 hG0 hLP hLN hNI hWd hat hdn hdl ⟨D, D1, D2, D3⟩ (by omega) (fun M' N' lst' wt' n' b1 b2 b3 b4 b5 b6 b7 b8 b9 => hQ M' N' lst' wt' n' b1 b2 b3 b4 b5 b6 b7 (fun a' ha' => ?_) b9)
        rcases List.mem_cons.mp ha' with rfl | ha'
        · obtain ⟨-, z, z1, z2, z3⟩ := b5 iy y hy
          exact ⟨iy, z, z1, z2.trans hyL, kle_tr z3 cb⟩
        · exact b8 a' ha'
    · -- a new state
      obtain ⟨q, hqd⟩ : ∃ q : Wn, q = (mvA pq.1 a, candK T pq a, (at_ : Int), cdT a) := ⟨_, rfl⟩
      have hq1 : q.1 = mvA L a := by rw [hqd, hpL]
      have hq2 : q.2.1 = candK T pq a := by rw [hqd]
      have hq3 : q.2.2.1 = (at_ : Int) := by rw [hqd]
      have hq4 : q.2.2.2 = cdT a := by rw [hqd]
      have hin : mvA pq.1 a ∉ (N.map fun q => q.1) := by rw [hpL]; exact cn
      have hRX : RX T at_ pq a N (N ++ [q]) := Or.inl ⟨hin, by rw [hqd]⟩
      obtain ⟨x1, x2, x3, x4, x5⟩ := RX_ok hw h6 hNI hWd hat hdn hpw hap' hRX
      have harw : arw (N ++ [q]) = arw N ++ [mvA L a] := by rw [arw_app, ← hq1]; rfl
      have hatl := (List.getElem?_eq_some_iff.mp hat).1
      have hlen2 : N.length + 1 ≤ ways (tR T) (tH T) := by
        have hh := few w2 hRH (Q := arw (N ++ [q])) (fun A hA => by
          obtain ⟨j, q', hq', rfl⟩ := arw_at hA
          exact x1.2.1 j q' hq') x1.2.2.1
        rw [arw_len, List.length_append] at hh; exact hh
      have hne : nm (tR T) (tH T) (mvA L a) ≠ nm (tR T) (tH T) L := fun e => cn (by
        rw [nm_inj wa wL w2 hRH e, ← hpL]
        exact List.mem_map.mpr ⟨pq, List.mem_of_getElem? hat, rfl⟩)
      rw [if_pos (hnew.mpr cn), wp_ite_f (show ¬ (1 : Int32) = 0 by decide), g7, wp_ck_t k5, n5, wp_ck_t (by omega), hpc, wp_bind]
      refine (c_lead sF hcp (x := nm (tR T) (tH T) (mvA L a)) (par := nm (tR T) (tH T) L) (p := (candK T pq a).2.length) (cd := cdT a) (by omega) (by omega) hcd hclen (Or.inr ⟨hne, pq.2.1.2.length, hcl1, hpt⟩)).mono (fun M2 h2 => ?_)
      obtain ⟨F2, i2, l2⟩ := h2
      have hWL2 : WL M2 F cp lst wt n := hWt.1.fr F2 (by simp) (by simp) (by simp) (by simp) (by simp)
      rw [F2.1, f1, wp_ck_t sF.1, wp_bind]
      refine c_wput (sF.fr F2.1) hcp hWL2 (by omega) (x := nm (tR T) (tH T) (mvA L a)) (v := (candK T pq a).1) (by omega) (by omega) (fun k hk hx => ?_) _ (fun M4 F4 z4 hWL4 o4 v4 => ?_)
      · obtain ⟨j, p, g1, g2, -⟩ := hWt.2.2 k hk _ hx
        exact cn (by
          rw [← nm_inj (hNI.2.1 j p g1) wa w2 hRH g2]
          exact List.mem_map.mpr ⟨p, List.mem_of_getElem? g1, rfl⟩)
      · have F24 : Fr [F, F + 1, F + 2, F + 3, F + 4, F + 5] M M4 := (F2.sub (by simp)).trans (F4.sub (by simp))
        have hSI4 := hSI0.fr1' d F24 (by rw [z4, i2])
        have l4 : ∀ j, M4.2.1 (F + 3) j = if j = nm (tR T) (tH T) q.1 then jl (ld q.2.1.2.length (nm (tR T) (tH T) L) q.2.2.2) else M.2.1 (F + 3) j := fun j => by
          rw [F4.l (by simp), l2, hq1, hq2, hq4]
        have hgl : ∀ i, i < N.length → (arw (N ++ [q])).getD i [] = (arw N).getD i [] := fun i hi => by rw [arw_app, gd_l _ (by rw [arw_len]; exact hi)]
        have hFN4 : FNw M4 F (tR T) (tH T) (N ++ [q]) := by
          refine FNw_upd hFN w2 hRH hNI.2.1 (fun j p hp => (hNI.pidx hp).1) (q := q) (by rw [hq1]; exact wa) l4 (by rw [hq4]; exact hcd) (by rw [hq2]; exact hclen) (by rw [hq3, Int.toNat_natCast, hgl _ hatl, arw_gd hat, hpL]) hgl (fun j p hp => ?_)
          by_cases c : j < N.length
          · rw [List.getElem?_append_left c] at hp
            refine Or.inr ⟨fun e => cn ?_, hp⟩
            rw [← hq1, ← e]
            exact List.mem_map.mpr ⟨p, List.mem_of_getElem? hp, rfl⟩
          · have hjl := (List.getElem?_eq_some_iff.mp hp).1
            rw [List.length_append, List.length_singleton] at hjl
            rw [show j = N.length by omega, List.getElem?_append_right (Nat.le_refl _), Nat.sub_self] at hp
            cases hp; exact Or.inl rfl
        have hFX4 : FX M4 F (tR T) (tH T) (arw (N ++ [q])) := FX_upd hFX l4 (by rw [harw, hq1]; simp) (fun A hA => by rw [harw]; exact List.mem_append_left _ hA)
        have o4' : ∀ j, j ≠ nm (tR T) (tH T) q.1 → M4.1 (F + 4) j = M.1 (F + 4) j := fun j hj => by
          rw [hq1] at hj
          rw [o4 j hj, i2]
        have hWt4 := Wt_new (M' := M4) (q := q) (m := n + 1) hWt w2 hRH hNI.2.1 (by rw [hq1]; exact wa) (by rw [hq1]; exact cn) hdl (by rw [hq1, hq2]; exact hWL4) o4' (by rw [hq1, hq2]; exact v4)
        have hls : ∀ x, x ∈ uN lst (q.2.1.1 % 1024) (lst (q.2.1.1 % 1024) ++ [nm (tR T) (tH T) q.1]) (W % 1024) ↔ x ∈ lst (W % 1024) := fun x => by
          rw [uN_ne _ _ (by rw [hq2]; exact Ne.symm hmodv)]
        have hat4 : (N ++ [q])[at_]? = some pq := by rw [List.getElem?_append_left hatl]; exact hat
        rw [f_X5_weighOn_195, show (1 : Int32) = J 1 from rfl, J_add, J_suc]
        refine ih k M4 (i + 1) _ dn _ _ (n + 1) hnext (by omega) h32 ⟨hSI4, hFN4, hFX4, hWt4⟩ (hLPfr M4 F24).1 (hLPfr M4 F24).2 x1 (hWdn _ x2) hat4 hdn (fun j hj => by have := hdl j hj; rw [List.length_append]; omega) ⟨D, D1, D2, by rw [List.length_append, List.length_singleton]; omega⟩ (by omega) (fun M' N' lst' wt' n' b1 b2 b3 b4 b5 b6 b7 b8 b9 => hQ M' N' lst' wt' n' (F24.trans b1) b2 b3 b4 (x3.trans b5) (by rw [List.length_append] at b6; omega) (by rw [List.length_append, List.length_singleton] at b7; omega) (fun a' ha' => ?_) (fun x => (b9 x).trans (hls x)))
        rcases List.mem_cons.mp ha' with rfl | ha'
        · obtain ⟨i', y', y1, y2, y3⟩ := x4
          obtain ⟨-, z, z1, z2, z3⟩ := b5 i' y' y1
          exact ⟨i', z, z1, z2.trans y2, kle_tr z3 y3⟩
        · exact b8 a' ha'
end
