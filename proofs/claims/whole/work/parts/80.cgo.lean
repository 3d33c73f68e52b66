/-! GOING ON FROM A STATE -/
def FN (M : rhM) (F : Nat) (Q : List Nd) : Prop := ∀ (j : Nat) (q : Nd), Q[j]? = some q → M.1 (F + 2) j = J q.2.1 ∧ M.1 (F + 3) j = J q.2.2.1 ∧ M.1 (F + 4) j = J q.2.2.2
def FAq (M : rhM) (F tb : Nat) (Q : List Nd) : Prop := (∃ tab, FW M F tb (arrs Q) tab) ∧ FN M F Q
def SI (Γ : rhG) (M : rhM) (S t cp tln Ln : Nat) (T : Tn) : Prop := SSh Γ M S cp tln Ln ∧ M.2.2 S 6 = t ∧ TSh Γ M t ∧ TC M t T ∧ PA Γ M (S + 19) (S + 20) Ln t T
def W1 (S : Nat) : List Nat := [S, S + 8, S + 9, S + 10, S + 11, S + 12, S + 13]
def W2 (S t : Nat) : List Nat := [S, S + 1, S + 2, S + 3, S + 4, S + 5, S + 6, S + 7, S + 8, S + 9, S + 10, S + 11, S + 12, S + 13, S + 20, t + 9, t + 10]
theorem SSh.fr {Γ : rhG} {M M' : rhM} {S cp tln Ln : Nat} (h : SSh Γ M S cp tln Ln) (hF : M'.2.2 = M.2.2) : SSh Γ M' S cp tln Ln := by
  unfold SSh SS FSh WSh; rw [hF]; exact h
theorem town_W {S t : Nat} (d : t + 10 < S) : ∀ r, r ∈ [t, t + 1, t + 2, t + 3, t + 4, t + 6, t + 7, t + 8] → r ∉ W2 S t ∧ r ∉ W1 S := by
  intro r hr
  unfold W2 W1
  simp only [List.mem_cons, List.not_mem_nil, or_false] at hr ⊢
  omega
theorem SI.fr1 {Γ : rhG} {M M' : rhM} {S t cp tln Ln : Nat} {T : Tn} (h : SI Γ M S t cp tln Ln T) (d : t + 10 < S) (hF : Fr (W1 S) M M') : SI Γ M' S t cp tln Ln T := by
  obtain ⟨h1, h2, h3, h4, h5⟩ := h
  exact ⟨h1.fr hF.1, by rw [hF.1]; exact h2, h3.fr hF.1, h4.fr hF (fun r hr => (town_W d r hr).2), h5.fr hF (by unfold W1; simp)⟩
theorem BM.fr {M M' : rhM} {S : Nat} {T : Tn} {md : Md} {l : List Ar} (h : BM M S T md l) (h1 : M'.1 S = M.1 S) (h2 : M'.2.1 S = M.2.1 S) : BM M' S T md l := by
  unfold BM; rw [h1, h2]; exact h
theorem FAq.fr {M M' : rhM} {F tb : Nat} {Q : List Nd} {W : List Nat} (h : FAq M F tb Q) (hF : Fr W M M') (h0 : F ∉ W) (h1 : F + 1 ∉ W) (h2 : F + 2 ∉ W) (h3 : F + 3 ∉ W) (h4 : F + 4 ∉ W) (h5 : F + 5 ∉ W) : FAq M' F tb Q := by
  unfold FAq FN FW
  rw [hF.i h0, hF.l h1, hF.i h2, hF.i h3, hF.i h4, hF.i h5]; exact h
section
variable {Γ : rhG} {T : Tn} {S t cp tln Ln tb : Nat} {md : Md} {L0 : Ar}
/-- a state that is new is put behind the others -/
theorem c_put {M : rhM} (hF : FSh Γ M (S + 8) cp tln) (hcp : cp ≤ 60480) (htln : tln ≤ 2 ^ 20) (h17 : tb ≤ 17) (htl : 2 ^ tb ≤ tln) {Q : List Nd} (hQ : FAq M (S + 8) tb Q) {L : Ar} {i : Nat} {q : Nd} (hq : Q[i]? = some q) {cd : Nat} (hroom : Q.length < cp) (hz : Q.length + 1 < 2 ^ tb) {tab : Nat → Nat} (hW : FW M (S + 8) tb (arrs Q) tab) (hSR : SR M (S + 8) tb tab (jl (wn L))) :
    wp (f_X0_add Γ M (S + 8) (jl (wn L)) (J i) (J cd)) (fun r => r.1 = J Q.length ∧ Fr [S + 8, S + 9, S + 10, S + 11, S + 12, S + 13] M r.2 ∧ FAq r.2 (S + 8) tb (Q ++ [(L, (i : Int), cd, q.2.2.2 + 1)])) := by
  have hl : (arrs Q).length = Q.length := by simp [arrs]
  have hil := (List.getElem?_eq_some_iff.mp hq).1
  have hd := (hQ.2 i q hq).2.2
  refine (c_add hF hW htl htln (by omega) hSR (by rw [hl]; exact hroom) (by rw [hl]; exact hz) (par := (i : Int)) (cd := cd) (dv := (q.2.2.2 : Int) + 1) (Or.inr ⟨i, rfl, by omega, by rw [hl]; omega, by rw [hd]; congr 1; omega⟩)).mono (fun r hr => ?_)
  obtain ⟨r1, r2, ⟨tab', r3⟩, r4, r5, r6⟩ := hr
  rw [hl] at r1 r4 r5 r6
  refine ⟨r1, r2, ⟨tab', by rw [arrs_app]; exact r3⟩, fun j x hx => ?_⟩
  by_cases hj : j < Q.length
  · rw [List.getElem?_append_left hj] at hx
    have := hQ.2 j x hx
    rw [r4, r5, r6, if_neg (by omega), if_neg (by omega), if_neg (by omega)]; exact this
  · have hjl := (List.getElem?_eq_some_iff.mp hx).1
    rw [List.length_append, List.length_singleton] at hjl
    have hj2 : j = Q.length := by omega
    subst hj2
    rw [List.getElem?_append_right (Nat.le_refl _), Nat.sub_self] at hx
    cases hx
    rw [r4, r5, r6, if_pos rfl, if_pos rfl, if_pos rfl]
    exact ⟨rfl, rfl, rfl⟩
theorem fmt_snoc {p : Ar → Prop} {Q : List Nd} (h : ∀ L, L ∈ arrs Q → ¬ p L) {x : Nd} (hx : p x.1) : fmt p (Q ++ [x]) = some Q.length := by
  refine fmt_some.mpr ⟨⟨x, by rw [List.getElem?_append_right (Nat.le_refl _), Nat.sub_self]; rfl, hx⟩, fun i q hi hq => ?_⟩
  rw [List.getElem?_append_left hi] at hq
  exact h _ (List.mem_map.mpr ⟨q, List.mem_of_getElem? hq, rfl⟩)
theorem not_snoc {p : Ar → Prop} {Q : List Nd} (h : ∀ L, L ∈ arrs Q → ¬ p L) {x : Nd} (hx : ¬ p x.1) : ∀ L, L ∈ arrs (Q ++ [x]) → ¬ p L := by
  intro L hL
  rw [arrs_app, List.mem_append] at hL
  rcases hL with hL | hL
  · exact h L hL
  · simp only [arrs, List.map_cons, List.map_nil, List.mem_singleton] at hL
    subst hL; exact hx
def GI (Γ : rhG) (M : rhM) (S t cp tln Ln tb : Nat) (T : Tn) (L0 : Ar) (md : Md) (Q : List Nd) : Prop := SI Γ M S t cp tln Ln T ∧ QW T L0 Q ∧ FAq M (S + 8) tb Q ∧ BM M S T md (arrs Q)
set_option maxHeartbeats 4000000 in
theorem c_go37 (hw : TWf T) (hRH : 0 < tH T → 0 < tR T) (d : t + 10 < S) (hb : isBits (ways (tR T) (tH T)) tb) (hcw : ways (tR T) (tH T) ≤ cp) {L : Ar} {at_ : Nat} {q : Nd} (hqL : q.1 = L) (Qp : Int32 × rhM → Prop) : ∀ (rest : List Tr) (n : Nat) (M : rhM) (i : Nat) (Q : List Nd),
    (pulls T L).drop i = rest → i ≤ (pulls T L).length → (pulls T L).length ≤ 32 → GI Γ M S t cp tln Ln tb T L0 md Q → LPu M (S + 1) T L (pulls T L) → Q[at_]? = some q → (∀ L, L ∈ arrs Q → ¬ pM md L) → rest.length < n →
    (∀ M', Fr (W1 S) M M' → GI Γ M' S t cp tln Ln tb T L0 md (putL L at_ q.2.2.2 rest Q) → (∀ L', L' ∈ arrs (putL L at_ q.2.2.2 rest Q) → ¬ pM md L') → (∀ j, j ≠ 1 → j ≠ 11 → M'.1 S j = M.1 S j) → Qp (-1, M')) →
    (∀ M' Q' j, Fr (W1 S) M M' → Q' <+: putL L at_ q.2.2.2 rest Q → Q'.length = j + 1 → fmt (pM md) Q' = some j → GI Γ M' S t cp tln Ln tb T L0 md Q' → (∀ j, j ≠ 1 → j ≠ 11 → M'.1 S j = M.1 S j) → Qp (J j, M')) →
    wp (f_X5_goOn_37 Γ n M S (J at_) (J i)) Qp := by
  have w1 := hw.1
  have w2 := hw.2.1
  intro rest
  induction rest with
  | nil =>
    intro n M i Q hd hi h32 hG hLP hq hno hn hN hM
    obtain ⟨n, rfl⟩ : ∃ k, n = k + 1 := ⟨n - 1, by omega⟩
    have hlen := congrArg List.length hd
    rw [List.length_drop] at hlen
    simp only [List.length_nil] at hlen
    have hS := hG.1.1
    have s5 := hS.2.2.2.2.1
    have sk := hS.2.2.2.2.2.1.1
    rw [f_X5_goOn_37, wp_ck_t hS.1, s5, wp_ck_t sk, hLP.1, wp_ite_f (by rw [J_lt (by omega) (by omega) (by omega) (by omega)]; omega), wp_some]
    exact hN M (Fr.refl _ _) hG hno (fun _ _ _ => rfl)
  | cons a rest ih =>
    intro n M i Q hd hi h32 hG hLP hq hno hn hN hM
    obtain ⟨n, rfl⟩ : ∃ k, n = k + 1 := ⟨n - 1, by omega⟩
    rw [List.length_cons] at hn
    have hlen := congrArg List.length hd
    rw [List.length_drop, List.length_cons] at hlen
    have hai : (pulls T L)[i]? = some a := by
      have := List.getElem?_drop (xs := pulls T L) (i := i) (j := 0)
      rw [hd, Nat.add_zero] at this; rw [← this]; rfl
    have hnext : (pulls T L).drop (i + 1) = rest := by
      have := congrArg (List.drop 1) hd
      rw [List.drop_drop] at this; simpa using this
    have hG0 := hG
    obtain ⟨hSI, hQW, hFA, hBM⟩ := hG
    have hS := hSI.1
    have s2 := hS.2.1
    have s5 := hS.2.2.2.2.1
    have sS := hS.2.2.2.2.2.1
    have sF := hS.2.2.2.2.2.2.1
    have sk := sS.1
    have hcp := hS.2.2.2.2.2.2.2.2.2.2.2.2.1
    obtain ⟨tc, htc, htln⟩ := hS.2.2.2.2.2.2.2.2.2.2.2.2.2.1
    have f6 := sS.2.2.2.2.2.2.2.2.2.2.1
    have f7 := sS.2.2.2.2.2.2.2.2.2.2.2.1
    have k4 := sS.2.2.2.2.1
    have k5 := sS.2.2.2.2.2.1
    obtain ⟨p1, p2, p3⟩ := hLP.2 i a hai
    rw [show S + 1 + 4 = S + 5 by omega] at p1 k4 f6
    rw [show S + 1 + 5 = S + 6 by omega] at p2 k5 f7
    have hle := bits_mono hb htc hcw
    have hpl : 2 ^ tb ≤ tln := by rw [htln]; exact pow_le hle
    have hp20 : tln ≤ 2 ^ 20 := by rw [htln]; exact pow_le (by have := htc.2.1; omega)
    have hQL := hQW.len w2 hRH
    have hal : (arrs Q).length = Q.length := by simp [arrs]
    have hqm : q.1 ∈ arrs Q := List.mem_map.mpr ⟨q, List.mem_of_getElem? hq, rfl⟩
    have wL : WA (tR T) (tH T) L := hqL ▸ hQW.2.1 _ hqm
    have hap : a ∈ pulls T L := List.mem_of_getElem? hai
    have wa := pulls_WA wL hap
    obtain ⟨tab, hFW⟩ := hFA.1
    have hnd := wds_nd w1 w2 hQW.2.1 hQW.2.2.1
    have hnum := c_number (Γ := Γ) sF hFW hb.1 (by have := hb.2.1; omega) hpl hp20 (by omega) (by omega) hnd (jl (wn (mvA L a)))
    rw [f_X5_goOn_37, wp_ck_t hS.1, s5, wp_ck_t sk, hLP.1, wp_ite_t (by rw [J_lt (by omega) (by omega) (by omega) (by omega)]; omega), f6, wp_ck_t k4.1, k4.2, J_toInt (by omega) (by omega), wp_ck_t (by omega), s2, wp_ck_t sF.1, J_clamp (by omega) (by omega), Int.toNat_natCast, p1, wp_bind]
    refine hnum.mono (fun r hr => ?_)
    obtain ⟨rF, rj, hr⟩ := hr
    have rF1 : Fr (W1 S) M r.2 := rF.sub (by unfold W1; simp)
    have hSI1 := hSI.fr1 d rF1
    have eS : r.2.1 S = M.1 S := rF.i (by simp)
    have eSl : r.2.2.1 S = M.2.1 S := rF.l (by simp)
    have hBM1 : BM r.2 S T md (arrs Q) := hBM.fr eS eSl
    have hLP1 : LPu r.2 (S + 1) T L (pulls T L) := hLP.fr rF (by simp) (by simp) (by simp) (by simp)
    have hFN1 : FN r.2 (S + 8) Q := by unfold FN; rw [rF.i (by simp), rF.i (by simp), rF.i (by simp)]; exact hFA.2
    have hFW1 : FW r.2 (S + 8) tb (arrs Q) tab := by
      obtain ⟨a1, a2, a3, a4, a5⟩ := hFW
      exact ⟨by rw [rj 0 (by decide)]; exact a1, by rw [rj 6 (by decide)]; exact a2, by rw [rF.l (by simp)]; exact a3, by rw [rF.i (by simp)]; exact a4, a5⟩
    have hput1 : putL L at_ q.2.2.2 (a :: rest) Q = putL L at_ q.2.2.2 rest (put1 L at_ q.2.2.2 Q a) := rfl
    rcases hr with ⟨k, hk, hr1⟩ | ⟨hnin, hr1, hSR⟩
    · have hin : mvA L a ∈ arrs Q := List.mem_of_getElem? ((wds_at w1 w2 hQW.2.1 wa).mp hk)
      have hkl := (List.getElem?_eq_some_iff.mp hk).1
      rw [wds_len, hal] at hkl
      have e1 : put1 L at_ q.2.2.2 Q a = Q := by unfold put1; rw [if_pos hin]
      rw [hput1, e1] at hN hM
      rw [hr1, wp_ite_f (by rw [show (-1 : Int32) = J (-1) from rfl, J_eq (by omega) (by omega) (by omega) (by omega)]; omega), f_X5_goOn_110, show (1 : Int32) = J 1 from rfl, J_add, J_suc]
      exact ih n r.2 (i + 1) Q hnext (by omega) h32 ⟨hSI1, hQW, ⟨⟨tab, hFW1⟩, hFN1⟩, hBM1⟩ hLP1 hq hno (by omega)
        (fun M' b1 b2 b3 b4 => hN M' (rF1.trans b1) b2 b3 (fun j x y => by rw [b4 j x y, eS]))
        (fun M' Q' j b1 b2 b3 b4 b5 b6 => hM M' Q' j (rF1.trans b1) b2 b3 b4 b5 (fun j x y => by rw [b6 j x y, eS]))
    · have hin : mvA L a ∉ arrs Q := fun h => hnin (by
        obtain ⟨k, hk, hk2⟩ := List.getElem_of_mem h
        exact List.mem_of_getElem? ((wds_at w1 w2 hQW.2.1 wa).mpr (by rw [List.getElem?_eq_getElem hk, hk2])))
      have e1 : put1 L at_ q.2.2.2 Q a = Q ++ [(mvA L a, (at_ : Int), cdT a, q.2.2.2 + 1)] := by unfold put1; rw [if_neg hin]
      have hQW2 : QW T L0 (Q ++ [(mvA L a, (at_ : Int), cdT a, q.2.2.2 + 1)]) := by
        rw [← e1, ← hqL]; exact hQW.put hq (by rw [hqL]; exact hap)
      have hlen2 := hQW2.len w2 hRH
      rw [List.length_append, List.length_singleton] at hlen2
      have hzz : Q.length + 1 < 2 ^ tb := by have := hb.2.2.1; omega
      rw [hput1, e1] at hN hM
      have hS1 := hSI1.1
      have s2' := hS1.2.1
      have s5' := hS1.2.2.2.2.1
      have sS' := hS1.2.2.2.2.2.1
      have sF' := hS1.2.2.2.2.2.2.1
      have f6' := sS'.2.2.2.2.2.2.2.2.2.2.1
      have f7' := sS'.2.2.2.2.2.2.2.2.2.2.2.1
      rw [show S + 1 + 4 = S + 5 by omega] at f6'
      rw [show S + 1 + 5 = S + 6 by omega] at f7'
      obtain ⟨p1', p2', -⟩ := hLP1.2 i a hai
      rw [show S + 1 + 4 = S + 5 by omega] at p1'
      rw [show S + 1 + 5 = S + 6 by omega] at p2'
      have hadd := c_put (Γ := Γ) (cd := cdT a) sF' hcp hp20 hb.2.1 hpl ⟨⟨tab, hFW1⟩, hFN1⟩ (L := mvA L a) (i := at_) hq (by omega) hzz hFW1 hSR
      rw [hr1, wp_ite_t rfl, s5', wp_ck_t sk, f6', wp_ck_t k4.1, k4.2, wp_ck_t (by omega), f7', wp_ck_t k5.1, k5.2, wp_ck_t (by omega), s2', wp_ck_t sF.1, p1', p2', wp_bind]
      refine hadd.mono (fun r2 hr2 => ?_)
      obtain ⟨g1, g2, g3⟩ := hr2
      have gF1 : Fr (W1 S) r.2 r2.2 := g2.sub (by unfold W1; simp)
      have hSI2 := hSI1.fr1 d gF1
      have eS2 : r2.2.1 S = r.2.1 S := g2.i (by simp)
      have eSl2 : r2.2.2.1 S = r.2.2.1 S := g2.l (by simp)
      have hBM2 : BM r2.2 S T md (arrs Q) := hBM1.fr eS2 eSl2
      have hLP2 : LPu r2.2 (S + 1) T L (pulls T L) := hLP1.fr g2 (by simp) (by simp) (by simp) (by simp)
      dsimp only
      rw [g1, wp_ite_f (by rw [show (-1 : Int32) = J (-1) from rfl, J_eq (by omega) (by omega) (by omega) (by omega)]; omega), wp_bind]
      obtain ⟨tab2, hFW2⟩ := g3.1
      have hword : r2.2.2.1 (S + 9) (arrs Q).length = jl (wn (mvA L a)) := by
        refine hFW2.2.2.1 _ _ ?_
        rw [wds_at w1 w2 hQW2.2.1 wa, arrs_app, List.getElem?_append_right (Nat.le_refl _), Nat.sub_self]; rfl
      have hmet := fun Qq => c_isMet (Γ := Γ) hSI2.1.1 hSI2.1.2.1 hSI2.1.2.2.2.2.2.2.1 hcp hSI2.2.1 hSI2.2.2.1 hSI2.2.2.2.1 hw hRH hQW.2.1 wa (by omega) hword hBM2 Qq
      rw [hal] at hmet
      refine hmet _ (fun M3 c1 c2 c3 c4 => ?_)
      have cF1 : Fr (W1 S) r2.2 M3 := c1.sub (by unfold W1; simp)
      have hSI3 := hSI2.fr1 d cF1
      have hFA3 : FAq M3 (S + 8) tb (Q ++ [(mvA L a, (at_ : Int), cdT a, q.2.2.2 + 1)]) := g3.fr c1 (by first | (simp; done) | (simp; omega)) (by first | (simp; done) | (simp; omega)) (by first | (simp; done) | (simp; omega)) (by first | (simp; done) | (simp; omega)) (by first | (simp; done) | (simp; omega)) (by first | (simp; done) | (simp; omega))
      have hGI3 : GI Γ M3 S t cp tln Ln tb T L0 md (Q ++ [(mvA L a, (at_ : Int), cdT a, q.2.2.2 + 1)]) := ⟨hSI3, hQW2, hFA3, by rw [arrs_app]; exact c4⟩
      have hFall : Fr (W1 S) M M3 := rF1.trans (gF1.trans cF1)
      have ej : ∀ j, j ≠ 1 → j ≠ 11 → M3.1 S j = M.1 S j := fun j x y => by rw [c2 j x y, eS2, eS]
      by_cases hp : pM md (mvA L a)
      · rw [bi_t hp, wp_ite_f (show ¬ (1 : Int32) = 0 by decide), wp_some]
        exact hM M3 _ Q.length hFall (putL_pre _ _ _ _ _) (by simp) (fmt_snoc hno hp) hGI3 ej
      · rw [bi_f hp, wp_ite_t rfl, f_X5_goOn_110, show (1 : Int32) = J 1 from rfl, J_add, J_suc]
        exact ih n M3 (i + 1) _ hnext (by omega) h32 hGI3 (hLP2.fr c1 (by first | (simp; done) | (simp; omega)) (by first | (simp; done) | (simp; omega)) (by first | (simp; done) | (simp; omega)) (by first | (simp; done) | (simp; omega))) (pre_get (List.prefix_append _ _) hq) (not_snoc hno hp) (by omega)
          (fun M' b1 b2 b3 b4 => hN M' (hFall.trans b1) b2 b3 (fun j x y => by rw [b4 j x y, ej j x y]))
          (fun M' Q' j b1 b2 b3 b4 b5 b6 => hM M' Q' j (hFall.trans b1) b2 b3 b4 b5 (fun j x y => by rw [b6 j x y, ej j x y]))
theorem pulT_len {L : Ar} {f m : Nat} : ∀ (d k : Nat), (pulT T L f m k d).length ≤ d - (if k ≤ f ∧ f < k + d then 1 else 0)
  | 0, k => by simp [pulT]
  | d + 1, k => by
    have ih := pulT_len (L := L) (f := f) (m := m) d (k + 1)
    rw [pulT_s, List.length_append]
    by_cases e : k = f
    · have eo : okb T L f m k = false := okb_f (fun h => h.1.2.2.1 (by rw [e]))
      rw [eo, if_pos (show k ≤ f ∧ f < k + (d + 1) by omega)]
      rw [if_neg (show ¬ (k + 1 ≤ f ∧ f < k + 1 + d) by omega)] at ih
      simp; omega
    · have : (if okb T L f m k = true then [(f, m, k)] else []).length ≤ 1 := by split <;> simp
      by_cases c : k ≤ f ∧ f < k + (d + 1)
      · rw [if_pos c]
        rw [if_pos (by omega)] at ih
        omega
      · rw [if_neg c]
        rw [if_neg (by omega)] at ih
        omega
theorem pulM_len {L : Ar} {f : Nat} (hf : f < tR T) : ∀ (d m : Nat), (pulM T L f m d).length ≤ d * (tR T - 1)
  | 0, m => by simp [pulM]
  | d + 1, m => by
    have ih := pulM_len (L := L) hf d (m + 1)
    have h1 := pulT_len (T := T) (L := L) (f := f) (m := m) (tR T) 0
    rw [if_pos (by omega)] at h1
    rw [pulM_s, List.length_append, Nat.succ_mul]; omega
theorem pulF_len {L : Ar} : ∀ (d f : Nat), f + d = tR T → (pulF T L f d).length + cum L f * (tR T - 1) ≤ cum L (tR T) * (tR T - 1)
  | 0, f, h => by rw [show f = tR T by omega]; simp [pulF]
  | d + 1, f, h => by
    have ih := pulF_len (L := L) d (f + 1) (by omega)
    have h1 := pulM_len (T := T) (L := L) (f := f) (by omega) (rl L f).length 1
    rw [cum_succ, Nat.add_mul] at ih
    rw [pulF_s, List.length_append]; omega
theorem pulls_len {L : Ar} (w1 : tR T ≤ 5) (w2 : tH T ≤ 8) (wL : WA (tR T) (tH T) L) : (pulls T L).length ≤ 32 := by
  have h := pulF_len (T := T) (L := L) (tR T) 0 (by omega)
  rw [wL.cumR] at h
  have : tH T * (tR T - 1) ≤ 8 * 4 := Nat.mul_le_mul w2 (by omega)
  unfold pulls; omega
theorem c_goOn (hw : TWf T) (hRH : 0 < tH T → 0 < tR T) (d : t + 10 < S) (hb : isBits (ways (tR T) (tH T)) tb) (hcw : ways (tR T) (tH T) ≤ cp) {M : rhM} {Q : List Nd} {at_ : Nat} {q : Nd} (hG : GI Γ M S t cp tln Ln tb T L0 md Q) (hq : Q[at_]? = some q) (hno : ∀ L, L ∈ arrs Q → ¬ pM md L) (Qp : Int32 × rhM → Prop)
    (hN : ∀ M', Fr (W2 S t) M M' → GI Γ M' S t cp tln Ln tb T L0 md (growA T Q at_) → (∀ L', L' ∈ arrs (growA T Q at_) → ¬ pM md L') → (∀ j, j ≠ 1 → j ≠ 11 → M'.1 S j = M.1 S j) → Qp (-1, M'))
    (hM : ∀ M' Q' j, Fr (W2 S t) M M' → Q' <+: growA T Q at_ → Q'.length = j + 1 → fmt (pM md) Q' = some j → GI Γ M' S t cp tln Ln tb T L0 md Q' → (∀ j, j ≠ 1 → j ≠ 11 → M'.1 S j = M.1 S j) → Qp (J j, M')) :
    wp (f_X5_goOn Γ M S (J at_)) Qp := by
  have w1 := hw.1
  have w2 := hw.2.1
  have hgrow : growA T Q at_ = putL q.1 at_ q.2.2.2 (pulls T q.1) Q := by unfold growA; rw [hq]
  rw [hgrow] at hN hM
  have hG0 := hG
  obtain ⟨hSI, hQW, hFA, hBM⟩ := hG
  obtain ⟨hS, hT6, hts, hT, hP⟩ := hSI
  have s2 := hS.2.1
  have s5 := hS.2.2.2.2.1
  have sS := hS.2.2.2.2.2.1
  have sF := hS.2.2.2.2.2.2.1
  have s4 := hS.2.2.2.1
  have hcp := hS.2.2.2.2.2.2.2.2.2.2.2.2.1
  have hQL := hQW.len w2 hRH
  have hil := (List.getElem?_eq_some_iff.mp hq).1
  have hqm : q.1 ∈ arrs Q := List.mem_map.mpr ⟨q, List.mem_of_getElem? hq, rfl⟩
  have wL := hQW.2.1 _ hqm
  obtain ⟨tab, hFW⟩ := hFA.1
  have hword : M.2.1 (S + 9) at_ = jl (wn q.1) := by
    refine hFW.2.2.1 at_ _ ?_
    rw [wds_at w1 w2 hQW.2.1 wL]
    show (Q.map fun q => q.1)[at_]? = _
    rw [List.getElem?_map, hq]; rfl
  rw [f_X5_goOn, wp_ck_t hS.1, s2, wp_ck_t sF.1, sF.2.2.2.2.2.2.1, show S + 8 + 1 = S + 9 by omega]
  have k9 := sF.2.1
  rw [show S + 8 + 1 = S + 9 by omega] at k9
  rw [wp_ck_t k9.1, k9.2, J_toInt (by omega) (by omega), wp_ck_t (by omega), s5, wp_ck_t sS.1, J_clamp (by omega) (by omega), Int.toNat_natCast, hword, hT6, wp_bind]
  refine (c_look (t := t) sS w1 w2 wL hRH hts.1 (by simp; omega) hT.1 hT.2.1).mono (fun M1 h1 => ?_)
  obtain ⟨F1, A1, -⟩ := h1
  have F1W : Fr (W2 S t) M M1 := F1.sub (by unfold W2; first | (simp; done) | (simp; omega))
  have sS1 := sS.fr F1.1
  have hT1 : TC M1 t T := hT.fr F1 (fun r hr => by simp only [List.mem_cons, List.not_mem_nil, or_false] at hr ⊢; omega)
  have hP1 : PA Γ M1 (S + 19) (S + 20) Ln t T := hP.fr F1 (by simp)
  have hI1 : IV Γ M1 (S + 1) t (S + 19) (S + 20) Ln T q.1 := ⟨sS1, A1, hts.fr F1.1, hT1, hP1⟩
  rw [F1.1, s5, wp_ck_t sS.1, hT6, s4, wp_bind]
  refine (c_listPulls hw wL (by unfold dis; omega) hI1).mono (fun M2 h2 => ?_)
  obtain ⟨F2, I2, L2⟩ := h2
  have F2W : Fr (W2 S t) M1 M2 := F2.sub (by unfold W2; first | (simp; done) | (simp; omega))
  have hF12 := F1W.trans F2W
  have eS : M2.1 S = M.1 S := by rw [F2.i (by first | (simp; done) | (simp; omega)), F1.i (by first | (simp; done) | (simp; omega))]
  have eSl : M2.2.1 S = M.2.1 S := by rw [F2.l (by first | (simp; done) | (simp; omega)), F1.l (by first | (simp; done) | (simp; omega))]
  have hFA2 : FAq M2 (S + 8) tb Q := (hFA.fr F1 (by first | (simp; done) | (simp; omega)) (by first | (simp; done) | (simp; omega)) (by first | (simp; done) | (simp; omega)) (by first | (simp; done) | (simp; omega)) (by first | (simp; done) | (simp; omega)) (by first | (simp; done) | (simp; omega))).fr F2 (by first | (simp; done) | (simp; omega)) (by first | (simp; done) | (simp; omega)) (by first | (simp; done) | (simp; omega)) (by first | (simp; done) | (simp; omega)) (by first | (simp; done) | (simp; omega)) (by first | (simp; done) | (simp; omega))
  have hG2 : GI Γ M2 S t cp tln Ln tb T L0 md Q := ⟨⟨hS.fr hF12.1, by rw [hF12.1]; exact hT6, I2.2.2.1, I2.2.2.2.1, I2.2.2.2.2⟩, hQW, hFA2, hBM.fr eS eSl⟩
  have h32 := pulls_len w1 w2 wL
  have hW12 : ∀ r, r ∈ W1 S → r ∈ W2 S t := by unfold W1 W2; first | (simp; done) | (simp; omega)
  exact c_go37 hw hRH d hb hcw rfl Qp (pulls T q.1) rhFU M2 0 Q rfl (Nat.zero_le _) h32 hG2 L2 hq hno (by have := FU_big2; omega)
    (fun M' b1 b2 b3 b4 => hN M' (hF12.trans (b1.sub hW12)) b2 b3 (fun j x y => by rw [b4 j x y, eS]))
    (fun M' Q' j b1 b2 b3 b4 b5 b6 => hM M' Q' j (hF12.trans (b1.sub hW12)) b2 b3 b4 b5 (fun j x y => by rw [b6 j x y, eS]))
end
