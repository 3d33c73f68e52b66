/-! GOING ON FROM A STATE BY WEIGHT, IN THE CLASS -/
def arw (N : List Wn) : List Ar := N.map fun q => q.1
/-- what waits: just the nodes that are not done -/
def Wt (M : rhM) (S cp : Nat) (N : List Wn) (dn : Nat → Prop) (lst : Nat → List Nat) (wt : Nat → Nat) (n : Nat) : Prop := WL M (S + 14) cp lst wt n ∧ (∀ (j : Nat) (q : Wn), N[j]? = some q → M.1 (S + 16) j = J q.2.1.1 ∧ wt j = q.2.1.1 ∧ (dn j ∨ j ∈ lst (q.2.1.1 % 1024))) ∧ ∀ k, k < 1024 → ∀ x, x ∈ lst k → x < N.length ∧ ¬ dn x
def GW (Γ : rhG) (M : rhM) (S t cp tln Ln tb : Nat) (T : Tn) (L0 : Ar) (N : List Wn) (dn : Nat → Prop) (lst : Nat → List Nat) (wt : Nat → Nat) (n : Nat) : Prop := SI Γ M S t cp tln Ln T ∧ (∃ tab, FW M (S + 8) tb (arw N) tab) ∧ FNw M (S + 8) N ∧ Wt M S cp N dn lst wt n
def W5 (S : Nat) : List Nat := [S + 8, S + 9, S + 10, S + 11, S + 12, S + 13, S + 14, S + 15, S + 16, S + 17, S + 18]
theorem SI.fr5 {Γ : rhG} {M M' : rhM} {S t cp tln Ln : Nat} {T : Tn} (h : SI Γ M S t cp tln Ln T) (d : t + 10 < S) (hF : Fr (W5 S) M M') : SI Γ M' S t cp tln Ln T := by
  obtain ⟨h1, h2, h3, h4, h5⟩ := h
  refine ⟨h1.fr hF.1, by rw [hF.1]; exact h2, h3.fr hF.1, h4.fr hF (fun r hr => ?_), h5.fr hF (by unfold W5; simp)⟩
  unfold W5
  simp only [List.mem_cons, List.not_mem_nil, or_false] at hr ⊢
  omega
section
variable {Γ : rhG} {T : Tn} {S t cp tln Ln tb : Nat} {L0 : Ar}
theorem FNw_set {M M' : rhM} {F : Nat} {N : List Wn} (h : FNw M F N) {x : Nat} {q : Wn} (h2 : ∀ j, M'.1 (F + 2) j = if j = x then J q.2.2.1 else M.1 (F + 2) j) (h3 : ∀ j, M'.1 (F + 3) j = if j = x then J q.2.2.2 else M.1 (F + 3) j) (h4 : ∀ j, M'.1 (F + 4) j = if j = x then J q.2.1.2.length else M.1 (F + 4) j) (hq : q.2.2.2 < 1000) (hl : q.2.1.2.length ≤ 60480) {N' : List Wn} (hN : ∀ (j : Nat) (p : Wn), N'[j]? = some p → (j = x ∧ p = q) ∨ (j ≠ x ∧ N[j]? = some p)) : FNw M' F N' := by
  intro j p hp
  rcases hN j p hp with ⟨rfl, rfl⟩ | ⟨c, hp'⟩
  · rw [h2, h3, h4, if_pos rfl, if_pos rfl, if_pos rfl]; exact ⟨rfl, rfl, rfl, hq, hl⟩
  · rw [h2, h3, h4, if_neg c, if_neg c, if_neg c]; exact h j p hp'
theorem cd_lt {T : Tn} {L : Ar} (hw : TWf T) (wL : WA (tR T) (tH T) L) {a : Tr} (ha : a ∈ pulls T L) : cdT a < 1000 := by
  obtain ⟨a1, a2, a3, a4, a5⟩ := (pulls_ok ha).1
  have x1 := wL.rl_len a1
  have w1 := hw.1
  have w2 := hw.2.1
  unfold cdT; omega
theorem c_better (hk : Γ.2.2.1 S = 6) (hw : TWf T) (h6 : tH T ≤ 6) {M : rhM} (hS : SSh Γ M S cp tln Ln) (w0 : WA (tR T) (tH T) L0) {N : List Wn} {dn : Nat → Prop} (hNc : N.length ≤ cp) (hNI : NI T L0 N dn) (hF : FNw M (S + 8) N) {i at_ : Nat} {y pq : Wn} {a : Tr} (hat : N[at_]? = some pq) (ha : a ∈ pulls T pq.1) (hy : N[i]? = some y) (hyL : y.1 = mvA pq.1 a) (hyw : M.1 (S + 16) i = J y.2.1.1) (hb1 : y.2.1.1 < 2147483648) (hb2 : (candK T pq a).1 < 2147483648) (hpos : 0 < (candK T pq a).1) :
    f_X5_isBetter Γ M S (J i) (J at_) (J (candK T pq a).1) = some (bi (klt (candK T pq a) y.2.1)) := by
  have s2 := hS.2.1
  have s3 := hS.2.2.1
  have sF := hS.2.2.2.2.2.2.1
  have sW := hS.2.2.2.2.2.2.2.1
  have hcp := hS.2.2.2.2.2.2.2.2.2.2.2.2.1
  have hil := (List.getElem?_eq_some_iff.mp hy).1
  have k16 := sW.2.2.1
  have r1 := sW.2.2.2.2.2.2.1
  rw [show S + 14 + 2 = S + 16 by omega] at k16 r1
  rw [f_X5_isBetter, rhck_t hS.1, s3, rhck_t sW.1, r1, rhck_t k16.1, k16.2, J_toInt (by omega) (by omega), rhck_t (by omega), J_clamp (by omega) (by omega), Int.toNat_natCast, hyw]
  by_cases c : (candK T pq a).1 = y.2.1.1
  · have hi0 : 0 < i := by
      by_cases e : i = 0
      · rw [e, hNI.1] at hy; cases hy; dsimp only at c; omega
      · omega
    obtain ⟨kk, p, b, g1, -, g3, -⟩ := hNI.2.2.2 i y hy hi0
    have hbi := better_iff hw h6 w0 hNI hat ha hy hyL hi0 g3 g1 c
    have hpar := (hF i y hy).1
    rw [show S + 8 + 2 = S + 10 by omega] at hpar
    have k10 := sF.2.2.1
    have f2 := sF.2.2.2.2.2.2.2.1
    rw [show S + 8 + 2 = S + 10 by omega] at k10 f2
    have hlead := c_leads hk s2 sF hcp hNc hNI.pwt hF hat g1
    rw [if_pos (by rw [c]), s2, rhck_t sF.1, f2, rhck_t k10.1, k10.2, rhck_t (by omega), hpar, g3, hlead, Option.bind_some, rhck_t (bi_01 _)]
    congr 2
    exact propext hbi.symm
  · rw [if_neg (by rw [J_eq (by omega) (by omega) (by omega) (by omega)]; omega)]
    by_cases c2 : (candK T pq a).1 < y.2.1.1
    · rw [if_pos (by rw [J_lt (by omega) (by omega) (by omega) (by omega)]; omega), bi_t (show klt (candK T pq a) y.2.1 from Or.inl c2)]
    · rw [if_neg (by rw [J_lt (by omega) (by omega) (by omega) (by omega)]; omega), bi_f]
      unfold klt; omega
set_option maxHeartbeats 4000000 in
theorem c_wo37 (hw : TWf T) (hRH : 0 < tH T → 0 < tR T) (h6 : tH T ≤ 6) (d : t + 10 < S) (w0 : WA (tR T) (tH T) L0) (hb : isBits (ways (tR T) (tH T)) tb) (hcw : ways (tR T) (tH T) ≤ cp) {L : Ar} {at_ W : Nat} {pq : Wn} (hpL : pq.1 = L) (hpw : pq.2.1.1 = W) (hW36 : W ≤ 40000000) (Q : rhM → Prop) : ∀ (rest : List Tr) (k : Nat) (M : rhM) (i : Nat) (N : List Wn) (dn : Nat → Prop) (lst : Nat → List Nat) (wt : Nat → Nat) (n : Nat),
    (pulls T L).drop i = rest → i ≤ (pulls T L).length → (pulls T L).length ≤ 32 → GW Γ M S t cp tln Ln tb T L0 N dn lst wt n → LPu M (S + 1) T L (pulls T L) → NI T L0 N dn → Wd N dn W → N[at_]? = some pq → dn at_ → (∀ j, dn j → j < N.length) → (∃ D : List Nat, D.Nodup ∧ (∀ j, dn j ↔ j ∈ D) ∧ n + D.length = N.length) → rest.length < k →
    (∀ M' N' lst' wt' n', Fr (W5 S) M M' → GW Γ M' S t cp tln Ln tb T L0 N' dn lst' wt' n' → NI T L0 N' dn → Wd N' dn W → Later dn N N' → N.length ≤ N'.length → n' + N.length = n + N'.length → (∀ a, a ∈ rest → ∃ (i : Nat) (y : Wn), N'[i]? = some y ∧ y.1 = mvA pq.1 a ∧ kle y.2.1 (candK T pq a)) → (∀ x, x ∈ lst' (W % 1024) ↔ x ∈ lst (W % 1024)) → Q M') →
    wp (f_X5_weighOn_37 Γ k M S (J at_) (J i)) Q := by
  have w1 := hw.1
  have w2 := hw.2.1
  intro rest
  induction rest with
  | nil =>
    intro k M i N dn lst wt n hd hi h32 hG hLP hNI hWd hat hdn hdl hcnt hk hQ
    obtain ⟨k, rfl⟩ : ∃ m, k = m + 1 := ⟨k - 1, by omega⟩
    have hlen := congrArg List.length hd
    rw [List.length_drop] at hlen
    simp only [List.length_nil] at hlen
    have hS := hG.1.1
    have s5 := hS.2.2.2.2.1
    have sk := hS.2.2.2.2.2.1.1
    rw [f_X5_weighOn_37, wp_ck_t hS.1, s5, wp_ck_t sk, hLP.1, wp_ite_f (by rw [J_lt (by omega) (by omega) (by omega) (by omega)]; omega), wp_some]
    exact hQ M N lst wt n (Fr.refl _ _) hG hNI hWd (Later.refl _ _) (Nat.le_refl _) rfl (fun a ha => by cases ha) (fun _ => Iff.rfl)
  | cons a rest ih =>
    intro k M i N dn lst wt n hd hi h32 hG hLP hNI hWd hat hdn hdl hcnt hk hQ
    obtain ⟨k, rfl⟩ : ∃ m, k = m + 1 := ⟨k - 1, by omega⟩
    rw [List.length_cons] at hk
    have hlen := congrArg List.length hd
    rw [List.length_drop, List.length_cons] at hlen
    have hai : (pulls T L)[i]? = some a := by
      have := List.getElem?_drop (xs := pulls T L) (i := i) (j := 0)
      rw [hd, Nat.add_zero] at this; rw [← this]; rfl
    have hnext : (pulls T L).drop (i + 1) = rest := by
      have := congrArg (List.drop 1) hd
      rw [List.drop_drop] at this; simpa using this
    have hG0 := hG
    obtain ⟨hSI, ⟨tab, hFW⟩, hFN, hWt⟩ := hG
    have hS := hSI.1
    have s2 := hS.2.1
    have s3 := hS.2.2.1
    have s5 := hS.2.2.2.2.1
    have sS := hS.2.2.2.2.2.1
    have sF := hS.2.2.2.2.2.2.1
    have sW := hS.2.2.2.2.2.2.2.1
    have sk := sS.1
    have hcp := hS.2.2.2.2.2.2.2.2.2.2.2.2.1
    obtain ⟨tc, htc, htln⟩ := hS.2.2.2.2.2.2.2.2.2.2.2.2.2.1
    have f6 := sS.2.2.2.2.2.2.2.2.2.2.1
    have f7 := sS.2.2.2.2.2.2.2.2.2.2.2.1
    have f8 := sS.2.2.2.2.2.2.2.2.2.2.2.2
    have k4 := sS.2.2.2.2.1
    have k5 := sS.2.2.2.2.2.1
    have k6 := sS.2.2.2.2.2.2.1
    have k16 := sW.2.2.1
    have rw1 := sW.2.2.2.2.2.2.1
    obtain ⟨p1, p2, p3⟩ := hLP.2 i a hai
    rw [show S + 1 + 4 = S + 5 by omega] at p1 k4 f6
    rw [show S + 1 + 5 = S + 6 by omega] at p2 k5 f7
    rw [show S + 1 + 6 = S + 7 by omega] at p3 k6 f8
    rw [show S + 14 + 2 = S + 16 by omega] at k16 rw1
    have hap : a ∈ pulls T L := List.mem_of_getElem? hai
    have hap' : a ∈ pulls T pq.1 := by rw [hpL]; exact hap
    have wL : WA (tR T) (tH T) L := hpL ▸ hNI.2.1 _ _ hat
    have wa := pulls_WA wL hap
    have hwt := wt_rng hw h6 wL hap
    have hcw1 : (candK T pq a).1 = W + wtA T L a := by unfold candK; rw [hpL]; dsimp only; omega
    have hle := bits_mono hb htc hcw
    have hpl : 2 ^ tb ≤ tln := by rw [htln]; exact pow_le hle
    have hp20 : tln ≤ 2 ^ 20 := by rw [htln]; exact pow_le (by have := htc.2.1; omega)
    have hvA : ∀ A, A ∈ arw N → WA (tR T) (tH T) A := fun A hA => by
      obtain ⟨q, hq, rfl⟩ := List.mem_map.mp hA
      obtain ⟨j, hj, e⟩ := List.getElem_of_mem hq
      exact hNI.2.1 j q (by rw [List.getElem?_eq_getElem hj, e])
    have hal : (arw N).length = N.length := by simp [arw]
    have hNl : N.length ≤ ways (tR T) (tH T) := by rw [← hal]; exact few w2 hRH hvA hNI.2.2.1
    have hwm : ways (tR T) (tH T) ≤ cp := hcw
    have hatl := (List.getElem?_eq_some_iff.mp hat).1
    have hnd := wds_nd w1 w2 hvA hNI.2.2.1
    have hata := hWt.2.1 at_ pq hat
    have hnum := c_number (Γ := Γ) sF hFW hb.1 (by have := hb.2.1; omega) hpl hp20 (by omega) (by omega) hnd (jl (wn (mvA L a)))
    have hx17 : J pq.2.1.1 + J (sm (tw T) (sg L a.1 a.2.1)) = J ((candK T pq a).1 : Nat) := by rw [J_add, hcw1, hpw]; rfl
    rw [f_X5_weighOn_37, wp_ck_t hS.1, s5, wp_ck_t sk, hLP.1, wp_ite_t (by rw [J_lt (by omega) (by omega) (by omega) (by omega)]; omega), s3, wp_ck_t sW.1, rw1, wp_ck_t k16.1, k16.2, J_toInt (show -2147483648 ≤ (at_ : Int) by omega) (by omega), wp_ck_t (by omega), f8, wp_ck_t k6.1, k6.2, J_toInt (by omega) (by omega), wp_ck_t (by omega), J_clamp (show -2147483648 ≤ (at_ : Int) by omega) (by omega), Int.toNat_natCast, hata.1]
    dsimp only
    rw [J_clamp (by omega) (by omega), Int.toNat_natCast, p3, hx17, f6, wp_ck_t k4.1, k4.2, wp_ck_t (by omega), s2, wp_ck_t sF.1, p1, wp_bind]
    refine hnum.mono (fun r hr => ?_)
    obtain ⟨rF, rj, hr⟩ := hr
    have rF5 : Fr (W5 S) M r.2 := rF.sub (by unfold W5; simp)
    have hSI1 := hSI.fr5 d rF5
    have hLP1 : LPu r.2 (S + 1) T L (pulls T L) := hLP.fr rF (by simp) (by simp) (by simp) (by simp)
    have hFN1 : FNw r.2 (S + 8) N := by unfold FNw; rw [rF.i (by simp), rF.i (by simp), rF.i (by simp)]; exact hFN
    have hFW1 : FW r.2 (S + 8) tb (arw N) tab := by
      obtain ⟨a1, a2, a3, a4, a5⟩ := hFW
      exact ⟨by rw [rj 0 (by decide)]; exact a1, by rw [rj 6 (by decide)]; exact a2, by rw [rF.l (by simp)]; exact a3, by rw [rF.i (by simp)]; exact a4, a5⟩
    have hWt1 : Wt r.2 S cp N dn lst wt n := by
      unfold Wt WL
      rw [rF.i (by first | (simp; done) | (simp; omega)), rF.i (by first | (simp; done) | (simp; omega)), rF.i (by first | (simp; done) | (simp; omega)), rF.i (by first | (simp; done) | (simp; omega)), rF.i (by first | (simp; done) | (simp; omega))]
      exact hWt
    have s2' : r.2.2.2 S 2 = S + 8 := by rw [rF.1]; exact s2
    have s3' : r.2.2.2 S 3 = S + 14 := by rw [rF.1]; exact s3
    have s5' : r.2.2.2 S 5 = S + 1 := by rw [rF.1]; exact s5
    have f6' : r.2.2.2 (S + 1) 6 = S + 5 := by rw [rF.1]; exact f6
    have f7' : r.2.2.2 (S + 1) 7 = S + 6 := by rw [rF.1]; exact f7
    have p1' : r.2.2.1 (S + 5) i = jl (wn (mvA L a)) := by rw [rF.l (by simp)]; exact p1
    have p2' : r.2.1 (S + 6) i = J (cdT a) := by rw [rF.i (by simp)]; exact p2
    have sF' := sF.fr rF.1
    have sW' : WSh Γ r.2 (S + 14) cp := hSI1.1.2.2.2.2.2.2.2.1
    have hcd : cdT a < 1000 := cd_lt hw wL hap
    have hclen : (candK T pq a).2.length ≤ 60480 := by
      have := hNI.len hat
      unfold candK; rw [List.length_cons]; omega
    obtain ⟨D, D1, D2, D3⟩ := hcnt
    have hmodv : (candK T pq a).1 % 1024 ≠ W % 1024 := by rw [hcw1]; omega
    have hWdn : ∀ N', Wd N' (fun j => dn j ∧ j < N.length) W → Wd N' dn W := fun N' h j q hq => ⟨fun x => (h j q hq).1 ⟨x, hdl j x⟩, fun x => (h j q hq).2 (fun y => x y.1)⟩
    have hxnew : ∀ k, k < 1024 → N.length ∉ lst k := fun k hk h => by have := (hWt.2.2 k hk _ h).1; omega
    have hn60 : n < 60480 := by
      have := List.length_pos_of_mem ((D2 at_).mp hdn); omega
    rcases hr with ⟨num, hk1, hr1⟩ | ⟨hnin, hr1, hSR⟩
    · -- a state that is known
      have hin := (wds_at w1 w2 hvA wa).mp hk1
      obtain ⟨y, hy, hyL⟩ : ∃ y, N[num]? = some y ∧ y.1 = mvA pq.1 a := by
        unfold arw at hin
        rw [List.getElem?_map] at hin
        cases e : N[num]? with
        | none => rw [e] at hin; cases hin
        | some y => rw [e] at hin; simp only [Option.map_some, Option.some.injEq] at hin; exact ⟨y, rfl, by rw [hin, hpL]⟩
      have hnl := (List.getElem?_eq_some_iff.mp hy).1
      have hyw := hWt1.2.1 num y hy
      have hywb : y.2.1.1 < 2147483648 := by
        have := hWd num y hy
        by_cases c : dn num
        · have := this.1 c; omega
        · have := this.2 c; omega
      have hbet := c_better hS.1 hw h6 hSI1.1 w0 (by omega) hNI hFN1 hat hap' hy hyL hyw.1 hywb (by omega) (by omega)
      rw [hr1]
      rw [wp_ite_f (by rw [show (-1 : Int32) = J (-1) from rfl, J_eq (by omega) (by omega) (by omega) (by omega)]; omega), hbet, wp_bind, wp_some]
      by_cases cb : klt (candK T pq a) y.2.1
      · have hRX : RX T at_ pq a N (N.set num (mvA pq.1 a, candK T pq a, (at_ : Int), cdT a)) := Or.inr (Or.inl ⟨num, y, hy, hyL, cb, rfl⟩)
        obtain ⟨x1, x2, x3, x4, x5⟩ := RX_ok hw h6 hNI hWd hat hdn hpw hap' hRX
        have hyW : W < y.2.1.1 := by
          have : (candK T pq a).1 ≤ y.2.1.1 := kle_w (fun h => klt_irr _ (klt_tr cb h))
          omega
        have hdnum : ¬ dn num := fun h => by have := (hWd num y hy).1 h; omega
        have hyup := ((hWd num y hy).2 hdnum).2
        have hmem : num ∈ lst (y.2.1.1 % 1024) := hyw.2.2.resolve_left hdnum
        have hnat : at_ ≠ num := fun e => hdnum (e ▸ hdn)
        obtain ⟨A, B, hAB⟩ := List.append_of_mem hmem
        have hm1 : 1 ≤ n := by
          have hh := nd_len (n := N.length) (l := num :: D) (List.nodup_cons.mpr ⟨fun h => hdnum ((D2 num).mpr h), D1⟩) (fun x hx => by
            rcases List.mem_cons.mp hx with rfl | hx
            · exact hnl
            · exact hdl x ((D2 x).mpr hx))
          rw [List.length_cons] at hh; omega
        obtain ⟨m, rfl⟩ : ∃ m, n = m + 1 := ⟨n - 1, by omega⟩
        have hatd := (hFN1 at_ pq hat).2.2.1
        rw [bi_t cb, wp_ite_f (by decide), s5', wp_ck_t sk, f7', wp_ck_t k5.1, k5.2, wp_ck_t (by omega), s2', wp_ck_t sF.1, p2', wp_bind]
        refine (c_lead sF' (by omega) (n := num) (par := (at_ : Int)) (cd := cdT a) (dv := ((candK T pq a).2.length : Int)) (by omega) (Or.inr ⟨at_, rfl, by omega, hnat, by rw [hatd]; congr 1; unfold candK; rw [List.length_cons]; omega⟩)).mono (fun M2 h2 => ?_)
        obtain ⟨F2, e2, e3, e4⟩ := h2
        have hFN2 : FNw M2 (S + 8) (N.set num (mvA pq.1 a, candK T pq a, (at_ : Int), cdT a)) := FNw_set hFN1 (x := num) (q := (mvA pq.1 a, candK T pq a, (at_ : Int), cdT a)) e2 e3 e4 hcd hclen (fun j p hp => by
          by_cases c : j = num
          · rw [c, List.getElem?_set_self hnl] at hp; cases hp; exact Or.inl ⟨c, rfl⟩
          · rw [List.getElem?_set_ne (Ne.symm c)] at hp; exact Or.inr ⟨c, hp⟩)
        have hWL2 : WL M2 (S + 14) cp lst wt (m + 1) := by
          unfold WL; rw [F2.i (by first | (simp; done) | (simp; omega)), F2.i (by first | (simp; done) | (simp; omega)), F2.i (by first | (simp; done) | (simp; omega)), F2.i (by first | (simp; done) | (simp; omega)), F2.i (by first | (simp; done) | (simp; omega))]; exact hWt1.1
        rw [F2.1, s3', wp_ck_t sW.1, wp_bind]
        have hAB' : lst (wt num % 1024) = A ++ num :: B := by rw [hyw.2.1]; exact hAB
        refine c_wdrop (sW'.1 |> fun _ => by unfold WSh at sW' ⊢; rw [F2.1]; exact sW') hcp hWL2 (by omega) hAB' _ (fun M3 F3 h3 => ?_)
        have hWL3 := h3 m rfl
        rw [F3.1, F2.1, s3', wp_ck_t sW.1, wp_bind]
        have hnd0 := (hWt1.1.2 _ (Nat.mod_lt (wt num) (show 0 < 1024 by decide))).2.2.1
        rw [hAB', List.nodup_append, List.nodup_cons] at hnd0
        refine c_wput (by unfold WSh at sW' ⊢; rw [F3.1, F2.1]; exact sW') hcp hWL3 (by omega) (x := num) (v := (candK T pq a).1) (by omega) (by omega) (fun k hk hx => ?_) _ (fun M4 F4 hWL4 g1 g2 => ?_)
        · by_cases c : k = wt num % 1024
          · rw [c, uN_eq, List.mem_append] at hx
            rcases hx with hx | hx
            · exact hnd0.2.2 _ hx _ List.mem_cons_self rfl
            · exact hnd0.2.1.1 hx
          · rw [uN_ne _ _ c] at hx
            have := ((hWt1.1.2 k hk).2.2.2 _ hx).2.1
            omega
        · have F24 : Fr (W5 S) r.2 M4 := (F2.sub (by unfold W5; first | (simp; done) | (simp; omega))).trans ((F3.sub (by unfold W5; first | (simp; done) | (simp; omega))).trans (F4.sub (by unfold W5; first | (simp; done) | (simp; omega))))
          have hSI4 := hSI1.fr5 d F24
          have hFN4 : FNw M4 (S + 8) (N.set num (mvA pq.1 a, candK T pq a, (at_ : Int), cdT a)) := by
            unfold FNw; rw [F4.i (by first | (simp; done) | (simp; omega)), F4.i (by first | (simp; done) | (simp; omega)), F4.i (by first | (simp; done) | (simp; omega)), F3.i (by first | (simp; done) | (simp; omega)), F3.i (by first | (simp; done) | (simp; omega)), F3.i (by first | (simp; done) | (simp; omega))]; exact hFN2
          have harw : arw (N.set num (mvA pq.1 a, candK T pq a, (at_ : Int), cdT a)) = arw N := by
            apply List.ext_getElem?
            intro j
            unfold arw
            rw [List.getElem?_map, List.getElem?_map]
            by_cases c : j = num
            · rw [c, List.getElem?_set_self hnl, hy]; simp [hyL]
            · rw [List.getElem?_set_ne (Ne.symm c)]
          have hFW4 : FW M4 (S + 8) tb (arw (N.set num (mvA pq.1 a, candK T pq a, (at_ : Int), cdT a))) tab := by
            rw [harw]
            unfold FW
            rw [F4.i (by first | (simp; done) | (simp; omega)), F4.l (by first | (simp; done) | (simp; omega)), F4.i (by first | (simp; done) | (simp; omega)), F3.i (by first | (simp; done) | (simp; omega)), F3.l (by first | (simp; done) | (simp; omega)), F3.i (by first | (simp; done) | (simp; omega)), F2.i (by first | (simp; done) | (simp; omega)), F2.l (by first | (simp; done) | (simp; omega)), F2.i (by first | (simp; done) | (simp; omega))]
            exact hFW1
          have hk0 : y.2.1.1 % 1024 ≠ W % 1024 := by omega
          have e16 : ∀ j, j ≠ num → M4.1 (S + 16) j = M.1 (S + 16) j := fun j hj => by
            have := g1 j hj
            rw [show S + 14 + 2 = S + 16 by omega] at this
            rw [this, F3.i (by first | (simp; done) | (simp; omega)), F2.i (by first | (simp; done) | (simp; omega)), rF.i (by first | (simp; done) | (simp; omega))]
          have hWt4 : Wt M4 S cp (N.set num (mvA pq.1 a, candK T pq a, (at_ : Int), cdT a)) dn (uN (uN lst (wt num % 1024) (A ++ B)) ((candK T pq a).1 % 1024) (num :: uN lst (wt num % 1024) (A ++ B) ((candK T pq a).1 % 1024))) (uN wt num (candK T pq a).1) (m + 1) := by
            refine ⟨hWL4, fun j q hq => ?_, fun k hk x hx => ?_⟩
            · by_cases c : j = num
              · rw [c, List.getElem?_set_self hnl] at hq
                cases hq
                rw [c, uN_eq]
                refine ⟨by rw [show S + 16 = S + 14 + 2 by omega]; exact g2, rfl, Or.inr ?_⟩
                dsimp only
                rw [uN_eq]; exact List.mem_cons_self
              · rw [List.getElem?_set_ne (Ne.symm c)] at hq
                obtain ⟨z1, z2, z3⟩ := hWt.2.1 j q hq
                rw [e16 j c, uN_ne _ _ c]
                refine ⟨z1, z2, z3.imp id (fun z => ?_)⟩
                have zz : j ∈ uN lst (wt num % 1024) (A ++ B) (q.2.1.1 % 1024) := by
                  by_cases c2 : q.2.1.1 % 1024 = wt num % 1024
                  · rw [c2, uN_eq]
                    rw [c2, hAB'] at z
                    simp only [List.mem_append, List.mem_cons] at z ⊢
                    rcases z with z | z | z
                    · exact Or.inl z
                    · exact absurd z c
                    · exact Or.inr z
                  · rw [uN_ne _ _ c2]; exact z
                by_cases c3 : q.2.1.1 % 1024 = (candK T pq a).1 % 1024
                · rw [c3, uN_eq]; rw [c3] at zz; exact List.mem_cons_of_mem _ zz
                · rw [uN_ne _ _ c3]; exact zz
            · rw [List.length_set]
              have hx2 : x = num ∨ ∃ k', k' < 1024 ∧ x ∈ lst k' := by
                have base : ∀ k', k' < 1024 → x ∈ uN lst (wt num % 1024) (A ++ B) k' → x ∈ lst k' := fun k' _ h => by
                  by_cases c : k' = wt num % 1024
                  · rw [c, uN_eq] at h; rw [c, hAB']
                    simp only [List.mem_append, List.mem_cons] at h ⊢
                    rcases h with h | h
                    · exact Or.inl h
                    · exact Or.inr (Or.inr h)
                  · rw [uN_ne _ _ c] at h; exact h
                by_cases c : k = (candK T pq a).1 % 1024
                · rw [c, uN_eq] at hx
                  rcases List.mem_cons.mp hx with hx | hx
                  · exact Or.inl hx
                  · exact Or.inr ⟨_, Nat.mod_lt _ (by decide), base _ (Nat.mod_lt _ (by decide)) hx⟩
                · rw [uN_ne _ _ c] at hx
                  exact Or.inr ⟨k, hk, base k hk hx⟩
              rcases hx2 with rfl | ⟨k', hk', hx'⟩
              · exact ⟨hnl, hdnum⟩
              · exact hWt.2.2 k' hk' x hx'
          have hls : ∀ x, x ∈ uN (uN lst (wt num % 1024) (A ++ B)) ((candK T pq a).1 % 1024) (num :: uN lst (wt num % 1024) (A ++ B) ((candK T pq a).1 % 1024)) (W % 1024) ↔ x ∈ lst (W % 1024) := fun x => by
            rw [uN_ne _ _ (Ne.symm hmodv), uN_ne _ _ (by rw [hyw.2.1]; exact Ne.symm hk0)]
          have hLP4 : LPu M4 (S + 1) T L (pulls T L) := ((hLP1.fr F2 (by first | (simp; done) | (simp; omega)) (by first | (simp; done) | (simp; omega)) (by first | (simp; done) | (simp; omega)) (by first | (simp; done) | (simp; omega))).fr F3 (by first | (simp; done) | (simp; omega)) (by first | (simp; done) | (simp; omega)) (by first | (simp; done) | (simp; omega)) (by first | (simp; done) | (simp; omega))).fr F4 (by first | (simp; done) | (simp; omega)) (by first | (simp; done) | (simp; omega)) (by first | (simp; done) | (simp; omega)) (by first | (simp; done) | (simp; omega))
          have hat4 : (N.set num (mvA pq.1 a, candK T pq a, (at_ : Int), cdT a))[at_]? = some pq := by rw [List.getElem?_set_ne (Ne.symm hnat)]; exact hat
          rw [f_X5_weighOn_188, show (1 : Int32) = J 1 from rfl, J_add, J_suc]
          refine ih k M4 (i + 1) _ dn _ _ (m + 1) hnext (by omega) h32 ⟨hSI4, ⟨tab, hFW4⟩, hFN4, hWt4⟩ hLP4 x1 (hWdn _ x2) hat4 hdn (fun j hj => by rw [List.length_set]; exact hdl j hj) ⟨D, D1, D2, by rw [List.length_set]; exact D3⟩ (by omega) (fun M' N' lst' wt' n' b1 b2 b3 b4 b5 b6 b7 b8 b9 => hQ M' N' lst' wt' n' ((rF5.trans F24).trans b1) b2 b3 b4 (x3.trans b5) (by rw [List.length_set] at b6; exact b6) (by rw [List.length_set] at b7; exact b7) (fun a' ha' => ?_) (fun x => (b9 x).trans (hls x)))
          rcases List.mem_cons.mp ha' with rfl | ha'
          · obtain ⟨i', y', y1, y2, y3⟩ := x4
            obtain ⟨-, z, z1, z2, z3⟩ := b5 i' y' y1
            exact ⟨i', z, z1, z2.trans y2, kle_tr z3 y3⟩
          · exact b8 a' ha'
      · rw [bi_f cb, wp_ite_t rfl, f_X5_weighOn_188, show (1 : Int32) = J 1 from rfl, J_add, J_suc]
        refine ih k r.2 (i + 1) N dn lst wt n hnext (by omega) h32 ⟨hSI1, ⟨tab, hFW1⟩, hFN1, hWt1⟩ hLP1 hNI hWd hat hdn hdl ⟨D, D1, D2, D3⟩ (by omega) (fun M' N' lst' wt' n' b1 b2 b3 b4 b5 b6 b7 b8 b9 => hQ M' N' lst' wt' n' (rF5.trans b1) b2 b3 b4 b5 b6 b7 (fun a' ha' => ?_) b9)
        rcases List.mem_cons.mp ha' with rfl | ha'
        · obtain ⟨-, z, z1, z2, z3⟩ := b5 num y hy
          exact ⟨num, z, z1, z2.trans hyL, kle_tr z3 cb⟩
        · exact b8 a' ha'
    · -- a new state
      have hin : mvA pq.1 a ∉ (N.map fun q => q.1) := fun h => hnin (by
        rw [hpL] at h
        obtain ⟨j, hj, e⟩ := List.getElem_of_mem h
        exact List.mem_of_getElem? ((wds_at w1 w2 hvA wa (i := j)).mpr (by show (N.map fun q => q.1)[j]? = _; rw [List.getElem?_eq_getElem hj, e])))
      have hRX : RX T at_ pq a N (N ++ [(mvA pq.1 a, candK T pq a, (at_ : Int), cdT a)]) := Or.inl ⟨hin, rfl⟩
      obtain ⟨x1, x2, x3, x4, x5⟩ := RX_ok hw h6 hNI hWd hat hdn hpw hap' hRX
      have harw : arw (N ++ [(mvA pq.1 a, candK T pq a, (at_ : Int), cdT a)]) = arw N ++ [mvA L a] := by simp [arw, hpL]
      have hlen2 : N.length + 1 ≤ ways (tR T) (tH T) := by
        have hh := few w2 hRH (Q := arw (N ++ [(mvA pq.1 a, candK T pq a, (at_ : Int), cdT a)])) (fun A hA => by
          obtain ⟨q, hq, rfl⟩ := List.mem_map.mp hA
          obtain ⟨j, hj, e⟩ := List.getElem_of_mem hq
          exact x1.2.1 j q (by rw [List.getElem?_eq_getElem hj, e])) x1.2.2.1
        simpa [arw] using hh
      have hzz : N.length + 1 < 2 ^ tb := by have := hb.2.2.1; omega
      have hatd := (hFN1 at_ pq hat).2.2.1
      have hadd := c_add (Γ := Γ) (L := mvA L a) (par := (at_ : Int)) (cd := cdT a) (dv := ((candK T pq a).2.length : Int)) sF' hFW1 hpl hp20 (by omega) hSR (by rw [hal]; omega) (by rw [hal]; exact hzz) (Or.inr ⟨at_, rfl, by omega, by rw [hal]; omega, by rw [hatd]; congr 1; unfold candK; rw [List.length_cons]; omega⟩)
      rw [hr1, wp_ite_t rfl, s5', wp_ck_t sk, f6', wp_ck_t k4.1, k4.2, wp_ck_t (by omega), f7', wp_ck_t k5.1, k5.2, wp_ck_t (by omega), s2', wp_ck_t sF.1, p1', p2', wp_bind]
      refine hadd.mono (fun r2 hr2 => ?_)
      obtain ⟨g0, F2, ⟨tab2, hFW2⟩, e2, e3, e4⟩ := hr2
      rw [hal] at g0 e2 e3 e4
      rw [g0, wp_ite_f (by rw [show (-1 : Int32) = J (-1) from rfl, J_eq (by omega) (by omega) (by omega) (by omega)]; omega), F2.1, s3', wp_ck_t sW.1, wp_bind]
      have hget : ∀ (j : Nat) (p : Wn), (N ++ [(mvA pq.1 a, candK T pq a, (at_ : Int), cdT a)])[j]? = some p → (j = N.length ∧ p = (mvA pq.1 a, candK T pq a, (at_ : Int), cdT a)) ∨ (j ≠ N.length ∧ N[j]? = some p) := fun j p hp => by
        by_cases c : j < N.length
        · rw [List.getElem?_append_left c] at hp; exact Or.inr ⟨by omega, hp⟩
        · have hjl := (List.getElem?_eq_some_iff.mp hp).1
          rw [List.length_append, List.length_singleton] at hjl
          have hj2 : j = N.length := by omega
          subst hj2
          rw [List.getElem?_append_right (Nat.le_refl _), Nat.sub_self] at hp
          cases hp; exact Or.inl ⟨rfl, rfl⟩
      have hFN2 := FNw_set (N' := N ++ [(mvA pq.1 a, candK T pq a, (at_ : Int), cdT a)]) hFN1 (x := N.length) (q := (mvA pq.1 a, candK T pq a, (at_ : Int), cdT a)) e2 e3 e4 hcd hclen hget
      have hWL2 : WL r2.2 (S + 14) cp lst wt n := by
        unfold WL; rw [F2.i (by first | (simp; done) | (simp; omega)), F2.i (by first | (simp; done) | (simp; omega)), F2.i (by first | (simp; done) | (simp; omega)), F2.i (by first | (simp; done) | (simp; omega)), F2.i (by first | (simp; done) | (simp; omega))]; exact hWt1.1
      refine c_wput (by unfold WSh at sW' ⊢; rw [F2.1]; exact sW') hcp hWL2 hn60 (x := N.length) (v := (candK T pq a).1) (by omega) (by omega) hxnew _ (fun M4 F4 hWL4 g1 g2 => ?_)
      have F24 : Fr (W5 S) r.2 M4 := (F2.sub (by unfold W5; first | (simp; done) | (simp; omega))).trans (F4.sub (by unfold W5; first | (simp; done) | (simp; omega)))
      have hSI4 := hSI1.fr5 d F24
      have hFN4 : FNw M4 (S + 8) (N ++ [(mvA pq.1 a, candK T pq a, (at_ : Int), cdT a)]) := by
        unfold FNw; rw [F4.i (by first | (simp; done) | (simp; omega)), F4.i (by first | (simp; done) | (simp; omega)), F4.i (by first | (simp; done) | (simp; omega))]; exact hFN2
      have hFW4 : FW M4 (S + 8) tb (arw (N ++ [(mvA pq.1 a, candK T pq a, (at_ : Int), cdT a)])) tab2 := by
        rw [harw]
        unfold FW
        rw [F4.i (by first | (simp; done) | (simp; omega)), F4.l (by first | (simp; done) | (simp; omega)), F4.i (by first | (simp; done) | (simp; omega))]
        exact hFW2
      have e16 : ∀ j, j ≠ N.length → M4.1 (S + 16) j = M.1 (S + 16) j := fun j hj => by
        have := g1 j hj
        rw [show S + 14 + 2 = S + 16 by omega] at this
        rw [this, F2.i (by first | (simp; done) | (simp; omega)), rF.i (by first | (simp; done) | (simp; omega))]
      have hWt4 : Wt M4 S cp (N ++ [(mvA pq.1 a, candK T pq a, (at_ : Int), cdT a)]) dn (uN lst ((candK T pq a).1 % 1024) (N.length :: lst ((candK T pq a).1 % 1024))) (uN wt N.length (candK T pq a).1) (n + 1) := by
        refine ⟨hWL4, fun j q hq => ?_, fun k hk x hx => ?_⟩
        · rcases hget j q hq with ⟨rfl, rfl⟩ | ⟨c, hq'⟩
          · rw [uN_eq]
            refine ⟨by rw [show S + 16 = S + 14 + 2 by omega]; exact g2, rfl, Or.inr ?_⟩
            dsimp only
            rw [uN_eq]; exact List.mem_cons_self
          · obtain ⟨z1, z2, z3⟩ := hWt.2.1 j q hq'
            rw [e16 j c, uN_ne _ _ c]
            refine ⟨z1, z2, z3.imp id (fun z => ?_)⟩
            by_cases c3 : q.2.1.1 % 1024 = (candK T pq a).1 % 1024
            · rw [c3, uN_eq]; rw [c3] at z; exact List.mem_cons_of_mem _ z
            · rw [uN_ne _ _ c3]; exact z
        · rw [List.length_append, List.length_singleton]
          by_cases c : k = (candK T pq a).1 % 1024
          · rw [c, uN_eq] at hx
            rcases List.mem_cons.mp hx with rfl | hx
            · exact ⟨by omega, fun h => by have := hdl _ h; omega⟩
            · have := hWt.2.2 _ (Nat.mod_lt _ (by decide)) x hx
              exact ⟨by omega, this.2⟩
          · rw [uN_ne _ _ c] at hx
            have := hWt.2.2 k hk x hx
            exact ⟨by omega, this.2⟩
      have hls : ∀ x, x ∈ uN lst ((candK T pq a).1 % 1024) (N.length :: lst ((candK T pq a).1 % 1024)) (W % 1024) ↔ x ∈ lst (W % 1024) := fun x => by
        rw [uN_ne _ _ (Ne.symm hmodv)]
      have hLP4 : LPu M4 (S + 1) T L (pulls T L) := (hLP1.fr F2 (by first | (simp; done) | (simp; omega)) (by first | (simp; done) | (simp; omega)) (by first | (simp; done) | (simp; omega)) (by first | (simp; done) | (simp; omega))).fr F4 (by first | (simp; done) | (simp; omega)) (by first | (simp; done) | (simp; omega)) (by first | (simp; done) | (simp; omega)) (by first | (simp; done) | (simp; omega))
      have hat4 : (N ++ [(mvA pq.1 a, candK T pq a, (at_ : Int), cdT a)])[at_]? = some pq := by rw [List.getElem?_append_left hatl]; exact hat
      rw [f_X5_weighOn_188, show (1 : Int32) = J 1 from rfl, J_add, J_suc]
      refine ih k M4 (i + 1) _ dn _ _ (n + 1) hnext (by omega) h32 ⟨hSI4, ⟨tab2, hFW4⟩, hFN4, hWt4⟩ hLP4 x1 (hWdn _ x2) hat4 hdn (fun j hj => by have := hdl j hj; rw [List.length_append]; omega) ⟨D, D1, D2, by rw [List.length_append, List.length_singleton]; omega⟩ (by omega) (fun M' N' lst' wt' n' b1 b2 b3 b4 b5 b6 b7 b8 b9 => hQ M' N' lst' wt' n' ((rF5.trans F24).trans b1) b2 b3 b4 (x3.trans b5) (by rw [List.length_append] at b6; omega) (by rw [List.length_append, List.length_singleton] at b7; omega) (fun a' ha' => ?_) (fun x => (b9 x).trans (hls x)))
      rcases List.mem_cons.mp ha' with rfl | ha'
      · obtain ⟨i', y', y1, y2, y3⟩ := x4
        obtain ⟨-, z, z1, z2, z3⟩ := b5 i' y' y1
        exact ⟨i', z, z1, z2.trans y2, kle_tr z3 y3⟩
      · exact b8 a' ha'
end
