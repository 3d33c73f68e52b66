/-! CLASS: LEAST, SPARE -/
section
variable {Γ : rhG} {M : rhM} {t t' : Nat} {T : Tn} {L : Ar}
theorem c_least (hG : GK Γ) (hC : CR M) (hT : C3 M t t' T) (hw : TWf T) (hRH : 0 < tH T → 0 < tR T) (h4 : C4 M (tR T) L) (wL : WA (tR T) (tH T) L) {gl ly : List Nat} (h7 : C7 M gl) (hnd : gl.Nodup) (hg : ∀ h, h ∈ gl → h < tH T) (hCD : CD Γ M ly) : wp (f_X11_least Γ M 1) (Aft Γ M [0, 8, 12] (leaV T L gl).2 (J (leaV T L gl).1)) := by
  have w2 := hw.2.1
  have htt := hT.tt
  unfold leaV
  rw [f_X11_least, wp_ck_t (GKk1 hG), CR1_9 hC, wp_ck_t (GKk51 hG), wp_bind]
  refine (c_clear51 hG hCD).mono (fun M1 q => ?_)
  obtain ⟨k1, kc1, hD1⟩ := q
  have hC1 := hC.kp k1 (by decide)
  have hT1 := hT.kp k1 (by decide)
  rw [c_isSpent hG hC1 hT1 hw, wp_bind, wp_some]
  by_cases c : manyP T
  · rw [bi_t c, wp_ite_f (by decide), wp_some, pick_t c]
    exact ⟨rfl, OldG.refl _, k1.sub (by decide), kc1, hD1⟩
  rw [bi_f c, wp_ite_t rfl, wp_bind, pick_f c]
  have hr4 : tR T ≤ 4 := by unfold manyP at c; omega
  have hh6 : tH T ≤ 6 := by unfold manyP at c; omega
  have h60 := ways_max hr4 hh6
  refine (c_ready hG hC1 hT1 hw hRH hr4 hh6 hD1).mono (fun r2 q => ?_)
  obtain ⟨o2, k2, kc2, cc, CC, cp, S, F, Ln, h02, hSE2, hcw⟩ := q
  have hf2 := hSE2.2.2.2.2.2.2.1.F183
  have hG2 := o2.gk hG
  have k12 := (k1.sub (ids' := [0, 8, 12]) (by decide)).trans (k2.sub (by decide))
  have hC2 := hC1.kp k2 (by decide)
  have hT2 := hT1.kp k2 (by decide)
  have h72 := (h7.kp k1 (by decide)).kp k2 (by decide)
  have h42 := (h4.kp k1 (by decide)).kp k2 (by decide)
  have hl := nd8 hnd hg
  rw [wp_ck_t (GKk1 hG2), hSE2.1, wp_ck_t hSE2.2.2.2.2.2.2.1.1, h72.2, h72.1, wp_bind]
  refine (c_seekRow hSE2 hg hl w2).mono (fun M3 q => ?_)
  obtain ⟨k3, kc3, i3, r3, b3⟩ := q
  have hC3 := hC2.kp k3 (by decide)
  have hT3 := hT2.kp k3 (by decide)
  have h43 := h42.kp k3 (by decide)
  have h03 := h02.S hSE2 i3 r3
  have hSE3 := hSE2.S i3 r3
  have hcp := hf2.2.2.2.1
  rw [CR1_5 hC3, wp_ck_t (GKk33 hG2), hSE3.1, wp_ck_t hSE3.2.2.2.2.2.2.1.1, hT3.2.1, h43.1, wp_bind]
  refine c_weigh (md := (0, gl, 0)) hw hRH hr4 hh6 (by have := hSE3.2.1; omega) hcw h60 hSE3.2.2.2.2.2.2.1 hSE3.2.2.2.2.2.2.2.1 hSE3.2.2.2.2.2.2.2.2 (hT3.ts hG2 hC3) hT3.2.2.2 wL b3 (show ¬ (0 : Nat) = 2 by decide) _ (fun M4 N' dn' lst' wt' n' hF hGW hj hno => ?_) (fun M4 N' dn' lst' wt' n' j x hF hGW hNI hj hx hLe => ?_)
  · obtain ⟨k4, kc4⟩ := KP_sp htt hSE3.2.1 (show 183 ≤ F by omega) W2_in hF
    have h04 := h03.sp htt W2_in hF hSE3
    have hSE4 := hSE3.sp hF hGW.1 hr4 hh6
    rw [leaK_none hno]
    dsimp only
    rw [f_X11_lay, wp_bind, wp_ite_t rfl, wp_some]
    dsimp only
    rw [wp_ite_t rfl, wp_some]
    exact ⟨rfl, o2, (k12.trans (k3.sub (by decide))).trans (k4.sub (by decide)), ((kc1.trans kc2).trans kc3).trans kc4, cc, CC, Or.inr ⟨S, F, cp, Ln, h04, hSE4⟩⟩
  · obtain ⟨k4, kc4⟩ := KP_sp htt hSE3.2.1 (show 183 ≤ F by omega) W2_in hF
    have hC4 := hC3.kp k4 (by decide)
    have h04 := h03.sp htt W2_in hF hSE3
    have hSE4 := hSE3.sp hF hGW.1 hr4 hh6
    have hP := Pth_W hcp hh6 hRH hcw hNI hGW.2.1 _ j x hx rfl
    obtain ⟨f1, f2, f3⟩ := PD_W hcp hh6 hRH hcw hNI hGW.2.1 hx
    have hwt := (hGW.2.2.2.2.1 j x hx).1
    rw [leaK_some hLe, outK]
    dsimp only
    obtain ⟨nx, hnx⟩ : ∃ nx, nm (tR T) (tH T) x.1 = nx := ⟨_, rfl⟩
    rw [hnx] at hP f1 f3 hwt ⊢
    rw [wp_bind]
    refine (c_lay hG2 hC4 h04 hSE4 f1 (r := x.2.1.2) f2 f3 hP).mono (fun y q => ?_)
    obtain ⟨x1, x2, x3, x4, x7, c', C', x5, x6⟩ := q
    have hS6 := x6.2.2.2.2.2.2.1
    have hF6 := hS6.2.2.2.2.1
    rw [wp_ite_f (by rw [x1, show (-1 : Int32) = J (-1) from rfl, J_eq (by omega) (by omega) (by omega) (by omega)]; omega), wp_ck_t (GKk1 (x2.gk hG2)), x6.1, wp_ck_t hS6.1, f_X5_weightTo, wp_bind, wp_ck_t hS6.1, hS6.2.1.1, wp_ck_t hF6.1, f_X0_weightTo, wp_bind, wp_ck_t hF6.1, hF6.2.2.2.2.2.2.2.2.2.1, wp_ck_t hF6.2.2.2.2.1.1, wp_ck_t (by rw [hF6.2.2.2.2.1.2, J_toInt (by omega) (by omega)]; omega), wp_some, wp_some, wp_some, J_clamp (by omega) (by omega), Int.toNat_natCast, (x7 (F + 4) (by omega)).1, hwt]
    have kx : KP [0, 8, 12] M y.2.2 := ((k12.trans (k3.sub (by decide))).trans (k4.sub (by decide))).trans (x3.sub (by decide))
    have kcx : KC M y.2.2 := (((kc1.trans kc2).trans kc3).trans kc4).trans x4
    exact ⟨rfl, o2.trans x2, kx, kcx, c', C', Or.inr ⟨S, F, cp, Ln, x5, x6⟩⟩
theorem lng_wf {r n : Nat} (hw : TWf T) (h2 : ∀ r, r < tR T → tL T r ≤ 200) (hn : n ≤ 99) : TWf (lng T r n) := by
  obtain ⟨a1, a2, a3, a4, a5, a6⟩ := hw
  refine ⟨a1, a2, a3, a4, fun k hk => ?_, a6⟩
  have := h2 k hk
  show (if k = r then T.2.1 k + n else T.2.1 k) ≤ 300
  have e : tL T k = T.2.1 k := rfl
  split <;> omega
theorem TC_lng {r n : Nat} (hT : TC M t T) (hr : r < tR T) (htt : t = 11 ∨ t = 22) : TC (rhsi M (t + 1) r (J (tL T r) + J n)) t (lng T r n) := by
  obtain ⟨a1, a2, a3, a4, a5, a6, a7, a8, a9, a10, a11, a12, a13⟩ := hT
  have e : ∀ y, y ≠ t + 1 → (rhsi M (t + 1) r (J (tL T r) + J n)).1 y = M.1 y := fun y hy => by funext k; rw [si_1, if_neg (by omega)]
  refine ⟨by rw [e _ (by omega)]; exact a1, by rw [e _ (by omega)]; exact a2, by rw [e _ (by omega)]; exact a3, by rw [e _ (by omega)]; exact a4, a5, fun k hk => ?_, by rw [e _ (by omega)]; exact a7, by rw [e _ (by omega)]; exact a8, by rw [e _ (by omega)]; exact a9, by rw [e _ (by omega)]; exact a10, by rw [e _ (by omega)]; exact a11, by rw [e _ (by omega)]; exact a12, by rw [e _ (by omega)]; exact a13⟩
  rw [si_1]
  show _ = J ((if k = r then T.2.1 k + n else T.2.1 k : Nat) : Int)
  by_cases c : k = r
  · rw [if_pos ⟨rfl, c⟩, if_pos c, J_add, c]; rfl
  · rw [if_neg (by omega), if_neg c]; exact a6 k hk
theorem c_sp57 {c C cp S F Ln nn : Nat} {ly gl : List Nat} (hw : TWf T) (hL2 : ∀ r, r < tR T → tL T r ≤ 200) (hRH : 0 < tH T → 0 < tR T) (hr4 : tR T ≤ 4) (hh6 : tH T ≤ 6) (wL : WA (tR T) (tH T) L) (hG : GK Γ) (hcw : ways (tR T) (tH T) ≤ cp) (hnn : nn ≤ 99) {w : Int} (w1 : -2147483648 ≤ w) (w2 : w < 2147483648) (hw01 : 0 ≤ w ∧ w ≤ 1) : ∀ (d n : Nat) (M : rhM) (r : Nat), r + d = tR T → d < n → CR M → C3 M t t' T → C4 M (tR T) L → CD0 Γ M ly c C cp 0 → SE Γ M c S F cp Ln → BMp M S T (0, gl, 0) →
    wp (f_X11_spare_57 f_X11_spare_161 n Γ M 1 (J nn) (J w) (J (spF T L gl nn r).1) (J (spF T L gl nn r).2) (J r)) (Aft Γ M [0, 12] ly (J (if (spF T L gl nn (tR T)).1 = -1 then -1 else if w = 0 then (spF T L gl nn (tR T)).1 else (spF T L gl nn (tR T)).2))) := by
  have w2' := hw.2.1
  have h60 := ways_max hr4 hh6
  intro d
  induction d with
  | zero =>
    intro n M r hr hn hC hT h4 h0 hSE hB
    obtain ⟨n, rfl⟩ : ∃ k, n = k + 1 := ⟨n - 1, by omega⟩
    have hrr : r = tR T := by omega
    subst hrr
    obtain ⟨-, s2, s3, s4⟩ := spF_rng (gl := gl) (n := nn) wL w2' hRH h60 (tR T)
    have hA : Aft Γ M [0, 12] ly (J (if (spF T L gl nn (tR T)).1 = -1 then -1 else if w = 0 then (spF T L gl nn (tR T)).1 else (spF T L gl nn (tR T)).2)) (J (if (spF T L gl nn (tR T)).1 = -1 then -1 else if w = 0 then (spF T L gl nn (tR T)).1 else (spF T L gl nn (tR T)).2), Γ, M) := ⟨rfl, OldG.refl _, KP.refl _ _, KC.refl _, c, C, Or.inr ⟨S, F, cp, Ln, h0, hSE⟩⟩
    rw [f_X11_spare_57, wp_ck_t (GKk1 hG), hT.2.1, wp_ck_t (hT.ts hG hC).1, hT.2.2.2.1, wp_ite_f (by rw [J_lt (by omega) (by omega) (by omega) (by omega)]; omega), f_X11_spare_161]
    by_cases c1 : (spF T L gl nn (tR T)).1 = -1
    · rw [wp_ite_t (by rw [c1]; rfl), wp_some]
      rw [if_pos c1] at hA ⊢; exact hA
    rw [wp_ite_f (by rw [show (-1 : Int32) = J (-1) from rfl, J_eq (by omega) (by omega) (by omega) (by omega)]; exact c1)]
    rw [if_neg c1] at hA ⊢
    by_cases c2 : w = 0
    · rw [wp_ite_t (by rw [c2]; rfl), wp_some]
      rw [if_pos c2] at hA ⊢; exact hA
    · rw [wp_ite_f (by rw [show (0 : Int32) = J 0 from rfl, J_eq (by omega) (by omega) (by omega) (by omega)]; exact c2), wp_some]
      rw [if_neg c2] at hA ⊢; exact hA
  | succ d ih =>
    intro n M r hr hn hC hT h4 h0 hSE hB
    obtain ⟨n, rfl⟩ : ∃ k, n = k + 1 := ⟨n - 1, by omega⟩
    have htt := hT.tt
    have hrR : r < tR T := by omega
    have hts := hT.ts hG hC
    have r6 : M.2.2 t 6 = t + 1 := hts.2.2.2.2.2.2.2.2.2.2.2.1.1
    have hlr := hT.2.2.2.2.2.2.2.2.1 r hrR
    have hcr : (J (r : Int)).toNatClampNeg = r := by rw [J_clamp (by omega) (by omega), Int.toNat_natCast]
    have hrng : 0 ≤ (J (r : Int)).toInt ∧ (J (r : Int)).toInt < ((5 : Nat) : Int) := by rw [J_toInt (by omega) (by omega)]; omega
    obtain ⟨s1, s2, s3, s4⟩ := spF_rng (gl := gl) (n := nn) wL w2' hRH h60 r
    have hS183 := hSE.2.1
    have hf2 := hSE.2.2.2.2.2.2.1.F183
    have hnext : ∀ b : Int × Nat, b = spF T L gl nn (r + 1) → ∀ M25, Fr (W2 S F t) (rs2 M S t) M25 → CD0 Γ M25 ly c C cp 0 → SE Γ M25 c S F cp Ln → BMp M25 S T (0, gl, 0) → wp (f_X11_spare_155 (f_X11_spare_57 f_X11_spare_161 n) Γ M25 1 (J nn) (J w) (J b.1) (J b.2) (J r)) (Aft Γ M [0, 12] ly (J (if (spF T L gl nn (tR T)).1 = -1 then -1 else if w = 0 then (spF T L gl nn (tR T)).1 else (spF T L gl nn (tR T)).2))) := fun b hb M25 hF g1 g2 g3 => by
      obtain ⟨k4, kc4⟩ := KP_sp htt hS183 (show 183 ≤ F by omega) W2_in hF
      rw [f_X11_spare_155, hb, show (1 : Int32) = J 1 from rfl, J_add, J_suc]
      refine (ih n M25 (r + 1) (by omega) (by omega) (hC.kp k4 (by decide)) (hT.kp k4 (by decide)) (h4.kp k4 (by decide)) g1 g2 g3).mono (fun x q => ?_)
      obtain ⟨q1, q2, q3, q4, q5⟩ := q
      exact ⟨q1, q2, k4.trans q3, kc4.trans q4, q5⟩
    rw [spF_s] at hnext
    obtain ⟨bb, hbb⟩ : ∃ bb, spF T L gl nn r = bb := ⟨_, rfl⟩
    rw [hbb] at s1 s2 s3 s4 hnext ⊢
    obtain ⟨l1, l2⟩ := spS_lim (T := T) (L := L) (gl := gl) (n := nn) (r := r) (b := bb) wL w2' hRH h60
    have hb7 : bb.2 ≤ 1000000 := by omega
    rw [f_X11_spare_57, wp_ck_t (GKk1 hG), hT.2.1, wp_ck_t hts.1, hT.2.2.2.1, wp_ite_t (by rw [J_lt (by omega) (by omega) (by omega) (by omega)]; omega), r6, wp_ck_t hts.2.1.1, hts.2.1.2, wp_ck_t hrng, hcr, hlr, CR1_5 hC, wp_ck_t (GKk33 hG), hSE.1, wp_ck_t hSE.2.2.2.2.2.2.1.1, h4.1]
    dsimp only
    have hT17 := TC_lng (n := nn) hT.2.2.2 hrR htt
    have e17 : ∀ y, y ≠ t + 1 → (rhsi M (t + 1) r (J (tL T r) + J nn)).1 y = M.1 y := fun y hy => by funext k; rw [si_1, if_neg (by omega)]
    have e17r : (rhsi M (t + 1) r (J (tL T r) + J nn)).2 = M.2 := rfl
    have e17v : ∀ k, (rhsi M (t + 1) r (J (tL T r) + J nn)).1 (t + 1) k = if k = r then J (tL T r) + J nn else M.1 (t + 1) k := fun k => by
      rw [si_1]
      by_cases e : k = r
      · rw [if_pos ⟨rfl, e⟩, if_pos e]
      · rw [if_neg (by omega), if_neg e]
    obtain ⟨M17, hM17⟩ : ∃ N, N = rhsi M (t + 1) r (J (tL T r) + J nn) := ⟨_, rfl⟩
    rw [← hM17] at hT17 e17 e17r e17v ⊢
    have hc52 : c ≠ t + 1 := by have := h0.2.1; omega
    have h017 : CD0 Γ M17 ly c C cp 0 := h0.mv (e17 51 (by omega)) (e17 c hc52) (by rw [e17r])
    have hSE17 : SE Γ M17 c S F cp Ln := hSE.top (fun y hy => e17 y (by omega)) (by rw [e17r])
    have hB17 : BMp M17 S (lng T r nn) (0, gl, 0) := by
      unfold BMp at hB ⊢
      rw [e17 S (by omega), e17r]; exact hB
    have wl := lng_wf (r := r) hw hL2 hnn
    rw [show (1 : Int32) = J 1 from rfl, J_sub, wp_bind]
    have back : ∀ M20, Fr (W2 S F t) (rs2 M17 S t) M20 → (M20.1 (t + 1) r = J (tL T r) + J nn) ∧ (M20.2.2 1 3 = t ∧ M20.2.2 t 6 = t + 1 ∧ M20.2.2 1 15 = S) ∧ Fr (W2 S F t) (rs2 M S t) (rhsi M20 (t + 1) r (J (tL T r))) := fun M20 hF => by
      have n1 : t + 1 ∉ W2 S F t := fun e => by have := W2_in _ e; omega
      have hv := hF.2 (t + 1) n1
      have refs : ∀ y k, y < 165 → M20.2.2 y k = M.2.2 y k := fun y k hy => by rw [hF.1, rs2_o (by omega) (by omega), e17r]
      refine ⟨by rw [hv.1]; exact (e17v r).trans (if_pos rfl), ⟨by rw [refs 1 3 (by omega)]; exact hT.2.1, by rw [refs t 6 (by omega)]; exact r6, by rw [refs 1 15 (by omega)]; exact hSE.1⟩, ?_, fun y hy => ?_⟩
      · show M20.2.2 = _
        rw [hF.1]
        funext a k
        unfold rs2
        simp only [rhsr, e17r]
      · by_cases e : y = t + 1
        · subst e
          refine ⟨?_, ?_⟩
          · funext k
            rw [si_1]
            show _ = M.1 (t + 1) k
            by_cases ek : k = r
            · rw [if_pos ⟨rfl, ek⟩, ek, hlr]
            · rw [if_neg (by omega), hv.1]
              exact (e17v k).trans (if_neg ek)
          · show M20.2.1 (t + 1) = M.2.1 (t + 1)
            rw [hv.2]; show M17.2.1 (t + 1) = _; rw [e17r]
        · have h := hF.2 y hy
          refine ⟨?_, ?_⟩
          · show _ = M.1 y
            rw [← e17 y e]
            funext k
            rw [si_1, if_neg (by omega), h.1]; rfl
          · show M20.2.1 y = M.2.1 y
            rw [h.2]; show M17.2.1 y = _; rw [e17r]
    have hz : ((bb.2 : Int) - 1).toNat = bb.2 - 1 := by omega
    refine c_sprd (T := lng T r nn) (md := (0, gl, 0)) (most := bb.2 - 1) htt (hts.fr (by rw [e17r])) hT17 wl hRH hr4 hh6 wL h017 hSE17 hcw hB17 hz (by omega) (by omega) _ (fun M20 hF h020 hSE20 b20 _ hf h11 _ => ?_) (fun M20 j hF h020 hSE20 b20 hf hrw => ?_)
    · obtain ⟨v1, ⟨v2, v3, v4⟩, hF25⟩ := back M20 hF
      have h11' : M20.1 S 10 = -1 := by rw [h11, if_neg (show ¬ ((0 : Nat), gl, (0 : Nat)).1 = 2 from (by show ¬ (0 : Nat) = 2; decide))]; rfl
      rw [h11']
      dsimp only
      rw [v2, wp_ck_t hts.1, v3, wp_ck_t hts.2.1.1, hts.2.1.2, wp_ck_t hrng, v1, J_add, J_sub, show (tL T r : Int) + nn - nn = tL T r by omega, wp_ite_t (show (-1 : Int32) = -J 1 from rfl)]
      have f1 : ∀ y, y ≠ t + 1 → (rhsi M20 (t + 1) r (J (tL T r))).1 y = M20.1 y := fun y hy => by funext k; rw [si_1, if_neg (by omega)]
      refine hnext bb (l2 hf).symm _ hF25 (h020.mv (f1 51 (by omega)) (f1 c hc52) rfl) (hSE20.top (fun y hy => f1 y (by omega)) rfl) ?_
      unfold BMp at b20 ⊢
      rw [f1 S (by omega)]; exact b20
    · obtain ⟨v1, ⟨v2, v3, v4⟩, hF25⟩ := back M20 hF
      obtain ⟨g1, g2, g3, g4, g5⟩ := hrw
      obtain ⟨m1, m2⟩ := l1 j hf
      have f1 : ∀ y, y ≠ t + 1 → (rhsi M20 (t + 1) r (J (tL T r))).1 y = M20.1 y := fun y hy => by funext k; rw [si_1, if_neg (by omega)]
      have hSE25 : SE Γ (rhsi M20 (t + 1) r (J (tL T r))) c S F cp Ln := hSE20.top (fun y hy => f1 y (by omega)) rfl
      have h025 : CD0 Γ (rhsi M20 (t + 1) r (J (tL T r))) ly c C cp 0 := h020.mv (f1 51 (by omega)) (f1 c hc52) rfl
      have b25 : BMp (rhsi M20 (t + 1) r (J (tL T r))) S T (0, gl, 0) := by
        unfold BMp at b20 ⊢
        rw [f1 S (by omega)]; exact b20
      have hS5 := hSE25.2.2.2.2.2.2.1
      have hF5 := hS5.2.2.2.2.1
      rw [g4] at g2 g5
      obtain ⟨dd, hdd⟩ : ∃ dd, dep (FQ (lng T r nn) (bb.2 - 1) L) j = dd := ⟨_, rfl⟩
      rw [hdd] at g2 g5 m1 m2
      obtain ⟨nx, hnx⟩ : ∃ nx, nm (tR (lng T r nn)) (tH (lng T r nn)) ((arrs (FQ (lng T r nn) (bb.2 - 1) L)).getD j []) = nx := ⟨_, rfl⟩
      rw [hnx] at g1 g2 ⊢
      have g2' : PD (rhsi M20 (t + 1) r (J (tL T r))) F nx dd := PD.mv (M := M20) rfl g2
      have hpt : f_X5_pullsTo Γ (rhsi M20 (t + 1) r (J (tL T r))) S (J nx) = some (J dd) := by
        rw [f_X5_pullsTo, rhck_t hS5.1, hS5.2.1.1, rhck_t hF5.1, g2'.pulls hF5 hf2.2.2.2.1 g1 g5, Option.bind_some]
      dsimp only
      rw [v2, wp_ck_t hts.1, v3, wp_ck_t hts.2.1.1, hts.2.1.2, wp_ck_t hrng, v1, J_add, J_sub, show (tL T r : Int) + nn - nn = tL T r by omega, wp_ite_f (by rw [show -J 1 = J (-1) from rfl, J_eq (by omega) (by omega) (by omega) (by omega)]; omega), v4, wp_ck_t hS5.1, hpt, wp_bind, wp_some]
      by_cases c3 : dd < bb.2
      · rw [if_pos c3] at m1
        rw [wp_ite_t (by rw [J_lt (by omega) (by omega) (by omega) (by omega)]; omega), wp_bind, wp_some]
        exact hnext ((r : Int), dd) m1.symm _ hF25 h025 hSE25 b25
      · rw [if_neg c3] at m1
        rw [wp_ite_f (by rw [J_lt (by omega) (by omega) (by omega) (by omega)]; omega)]
        exact hnext bb m1.symm _ hF25 h025 hSE25 b25
theorem c_spare (hG : GK Γ) (hC : CR M) (hT : C3 M t t' T) (hw : TWf T) (hL2 : ∀ r, r < tR T → tL T r ≤ 200) (hRH : 0 < tH T → 0 < tR T) (h4 : C4 M (tR T) L) (wL : WA (tR T) (tH T) L) {gl ly : List Nat} (h7 : C7 M gl) (hnd : gl.Nodup) (hg : ∀ h, h ∈ gl → h < tH T) (hCD : CD Γ M ly) {n : Int} (n1 : -2147483648 ≤ n) (n2 : n < 2147483648) {w : Int} (w1 : -2147483648 ≤ w) (w2 : w < 2147483648) : wp (f_X11_spare Γ M 1 (J n) (J w)) (Aft Γ M [0, 12] ly (J (sprV T L gl n w))) := by
  have w2' := hw.2.1
  unfold sprV
  have no : ∀ (h : ¬ (1 ≤ n ∧ n ≤ 99 ∧ 0 ≤ w ∧ w ≤ 1 ∧ ¬ manyP T)) (v : Int), Aft Γ M [0, 12] ly (J (pick (1 ≤ n ∧ n ≤ 99 ∧ 0 ≤ w ∧ w ≤ 1 ∧ ¬ manyP T) v (-1))) (-1, Γ, M) := fun h v => by
    rw [pick_f h]; exact ⟨rfl, OldG.refl _, KP.refl _ _, KC.refl _, hCD⟩
  rw [f_X11_spare]
  by_cases c1 : n < 1
  · rw [wp_ite_t (by rw [show (1 : Int32) = J 1 from rfl, J_lt (by omega) (by omega) (by omega) (by omega)]; exact c1), wp_some]; exact no (by omega) _
  rw [wp_ite_f (by rw [show (1 : Int32) = J 1 from rfl, J_lt (by omega) (by omega) (by omega) (by omega)]; exact c1)]
  by_cases c2 : 99 < n
  · rw [wp_ite_t (by rw [show (99 : Int32) = J 99 from rfl, J_lt (by omega) (by omega) (by omega) (by omega)]; exact c2), wp_some]; exact no (by omega) _
  rw [wp_ite_f (by rw [show (99 : Int32) = J 99 from rfl, J_lt (by omega) (by omega) (by omega) (by omega)]; exact c2)]
  by_cases c3 : w < 0
  · rw [wp_ite_t (by rw [show (0 : Int32) = J 0 from rfl, J_lt (by omega) (by omega) (by omega) (by omega)]; exact c3), wp_some]; exact no (by omega) _
  rw [wp_ite_f (by rw [show (0 : Int32) = J 0 from rfl, J_lt (by omega) (by omega) (by omega) (by omega)]; exact c3)]
  by_cases c4 : 1 < w
  · rw [wp_ite_t (by rw [show (1 : Int32) = J 1 from rfl, J_lt (by omega) (by omega) (by omega) (by omega)]; exact c4), wp_some]; exact no (by omega) _
  rw [wp_ite_f (by rw [show (1 : Int32) = J 1 from rfl, J_lt (by omega) (by omega) (by omega) (by omega)]; exact c4), wp_ck_t (GKk1 hG), c_isSpent hG hC hT hw, wp_bind, wp_some]
  by_cases c : manyP T
  · rw [bi_t c, wp_ite_f (by decide), wp_some]; exact no (fun h => h.2.2.2.2 c) _
  rw [bi_f c, wp_ite_t rfl, wp_bind, pick_t ⟨by omega, by omega, by omega, by omega, c⟩]
  have hr4 : tR T ≤ 4 := by unfold manyP at c; omega
  have hh6 : tH T ≤ 6 := by unfold manyP at c; omega
  refine (c_ready hG hC hT hw hRH hr4 hh6 hCD).mono (fun r2 q => ?_)
  obtain ⟨o2, k2, kc2, cc, CC, cp, S, F, Ln, h02, hSE2, hcw⟩ := q
  have hf2 := hSE2.2.2.2.2.2.2.1.F183
  have hG2 := o2.gk hG
  have hC2 := hC.kp k2 (by decide)
  have hT2 := hT.kp k2 (by decide)
  have h72 := h7.kp k2 (by decide)
  have h42 := h4.kp k2 (by decide)
  have hl := nd8 hnd hg
  rw [wp_ck_t (GKk1 hG2), hSE2.1, wp_ck_t hSE2.2.2.2.2.2.2.1.1, h72.2, h72.1, wp_bind]
  refine (c_seekRow hSE2 hg hl w2').mono (fun M3 q => ?_)
  obtain ⟨k3, kc3, i3, r3, b3⟩ := q
  obtain ⟨nn, rfl⟩ : ∃ k : Nat, n = k := ⟨n.toNat, by omega⟩
  rw [Int.toNat_natCast]
  have := c_sp57 (gl := gl) (nn := nn) (c := cc) (C := CC) (cp := cp) (S := S) (F := F) (Ln := Ln) (ly := ly) hw hL2 hRH hr4 hh6 wL hG2 hcw (by omega) w1 w2 ⟨by omega, by omega⟩ (tR T) rhFU M3 0 (by omega) (by have := FU_big; omega) (hC2.kp k3 (by decide)) (hT2.kp k3 (by decide)) (h42.kp k3 (by decide)) (h02.S hSE2 i3 r3) (hSE2.S i3 r3) b3
  refine this.mono (fun x q => ?_)
  obtain ⟨q1, q2, q3, q4, q5⟩ := q
  exact ⟨q1, o2.trans q2, ((k2.sub (by decide)).trans (k3.sub (by decide))).trans q3, (kc2.trans kc3).trans q4, q5⟩
end
