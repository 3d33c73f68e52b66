def FQr (b : Nat) (bs : List Int32) (M : rhM) (x : Rs) (M' : rhM) : Prop := YB b M M' ∧ QS M' bs x.1 ∧ (x.1.2.1 = 0 → RKB M' b x.2)
section
variable {Γ : rhG} {b : Nat} {M M' : rhM} {bs : List Int32} {B : Bd} {s : Ps}
theorem FQr.of {M0 : rhM} {x : Rs} (k : YB b M0 M) (h : FQr b bs M x M') : FQr b bs M0 x M' := ⟨k.trans h.1, h.2⟩
theorem y_177 (hE : RE Γ M b) {s5 : Ps} {x : Rs} (hQ : QS M bs s5) (h1 : (tSign bs 59 s5).2 = x.1.2) (h2 : x.1.2.1 = 0 → tSign bs 59 s5 = x.1 ∧ RKB M b x.2) : wp (f_X12_readLine_177 Γ M 102) (FQr b bs M x) := by
  obtain ⟨hG, hR, hb, h35⟩ := id hE
  rw [f_X12_readLine_177, wp_ck_t (GKk102 hG)]
  show wp ((f_X12_stands Γ M 102 (J (59 : Nat))).bind _) _
  refine y_sign hG hR hQ (c := 59) (by decide) (fun M1 z1 z2 => (wp_some _ _).mpr ⟨YB.yx hb z1, ?_, fun g => (h2 g).2.yx z1⟩)
  by_cases g : x.1.2.1 = 0
  · rw [← (h2 g).1]; exact z2
  · exact z2.bad (by rw [h1]; exact g) h1.symm
theorem kwB_ne {q j : Nat} (hq : q < 18) (hj : j < 18) (h : q ≠ j) : kwB q ≠ kwB j := by
  intro e
  have hm : kwL.getD q [] ∈ kwL := by
    rw [List.getD_eq_getElem?_getD, List.getElem?_eq_getElem (show q < kwL.length from hq)]
    exact List.getElem_mem _
  obtain ⟨g1, g2⟩ := kwL_mem hm
  have e2 := (kb_eq hj g1 g2).mp e
  have := kw_at q hq
  rw [e2, kw_at j hj] at this
  exact h this.symm
theorem y_neck (hE : RE Γ M b) (hQ : QS M bs (adv bs s)) (hK : RKB M b B) (hn : ¬ (bN B).isSome = true) : wp (f_X12_readLine_72 Γ M 102 (kwB 3)) (FQr b bs M (lNeck bs (s, B))) := by
  obtain ⟨hG, hR, hb, h35⟩ := id hE
  have eA : advU bs ((bN B).isSome = true) s = adv bs s := by unfold advU; rw [if_neg hn]
  have eL : lNeck bs (s, B) = (tSign bs 59 (tNum bs 1 999 (qp bs (adv bs s).1) (adv bs s)).2, (bR B, bH B, bB B, some (tNum bs 1 999 (qp bs (adv bs s).1) (adv bs s)).1, B.2.2.2.2)) := by
    unfold lNeck; simp only [eA]
  generalize lNeck bs (s, B) = xx at *
  rw [f_X12_readLine_72, wp_ite_t kwB_at.1.2.2.2.2.2.2.2.1.symm, wp_ck_t (GKk102 hG), MRf23 hR, wp_ck_t (GKk117 hG), h35, wp_ck_t (by rw [J_toInt (by omega) (by omega), GKl117 hG]; omega), J_clamp (by omega) (by omega), Int.toNat_natCast]
  have i35 : (rhsi M 117 b (vp_nar .boolean 1)).1 102 35 = J b := by rw [si_1, if_neg (by omega)]; exact h35
  simp only [i35]
  rw [show vp_nar .boolean 1 = (1 : Int32) from by decide]
  have Q1 : QS (rhsi M 117 b 1) bs (adv bs s) := hQ.c (by decide) (by decide) _ _
  have Y1 : YB b M (rhsi M 117 b 1) := (YB.refl b M).si (r := 117) (j := b) (by decide) (by decide) (by show b / 1 ≠ 1 - b; omega) 1
  have E1 := hE.yb Y1
  show wp ((f_X12_numeral Γ (rhsi M 117 b 1) 102 (J (1 : Nat)) (J (999 : Nat))).bind _) _
  rw [wp_bind]
  have qa := y_num (M := rhsi M 117 b 1) (a := 1) (b := 999) hG E1.2.1 Q1 (by decide) (by decide)
  refine qa.mono (fun n y => ?_)
  clear qa
  obtain ⟨y1, y2, y3⟩ := y
  generalize hl : tNum bs 1 999 (qp bs (adv bs s).1) (adv bs s) = l2 at *
  rw [MRf15 hR, wp_ck_t (GKk109 hG), wp_ck_t (by rw [J_toInt (by omega) (by omega), GKl109 hG]; omega)]
  show wp (f_X12_readLine_107 Γ (rhsi n.2 109 (J b).toNatClampNeg n.1) 102 (kwB 3)) _
  rw [J_clamp (by omega) (by omega), Int.toNat_natCast]
  have Y2 : YB b M (rhsi n.2 109 b n.1) := (Y1.trans (YB.yx hb y1)).si (r := 109) (j := b) (by decide) (by decide) (by show b / 1 ≠ 1 - b; omega) _
  rw [f_X12_readLine_107, wp_ite_f (by rw [kwB_at.1.2.2.2.2.2.2.2.2]; exact kwB_ne (by decide) (by decide) (by decide)), f_X12_readLine_142, wp_ite_f (by rw [kwB_at.2.1]; exact kwB_ne (by decide) (by decide) (by decide))]
  refine (y_177 (x := xx) (hE.yb Y2) (y2.c (by decide) (by decide) _ _) (by rw [eL]) (fun g => ?_)).mono (fun M' q => q.of Y2)
  rw [eL] at g
  have g1 := (tSign_good g).1
  have en := y3 g1
  clear g
  refine ⟨by rw [eL], ?_⟩
  rw [eL]
  obtain ⟨⟨k0, k1, k2, k3, k4⟩, ⟨kn1, kn2⟩, kl, ks, kw, kc, kf, k111⟩ := hK
  have o : ∀ r, r ≠ 102 → r ≠ 109 → r ≠ 117 → (rhsi n.2 109 b n.1).1 r = M.1 r := fun r h1 h2 h3 => by
    funext k; rw [si_1, if_neg (fun q => h2 q.1), y1.1.i (by simp only [List.mem_singleton]; exact h1), si_1, if_neg (fun q => h3 q.1)]
  have ol : ∀ r, r ≠ 102 → (rhsi n.2 109 b n.1).2.1 r = M.2.1 r := fun r h1 => by rw [si_2, y1.1.l (by simp only [List.mem_singleton]; exact h1)]; rfl
  have o117 : (rhsi n.2 109 b n.1).1 117 b = 1 := by rw [si_1, if_neg (by omega), y1.1.i (by decide), si_1, if_pos ⟨rfl, rfl⟩]
  have o36 : (rhsi n.2 109 b n.1).1 102 36 = M.1 102 36 := by rw [si_1, if_neg (by omega), y1.2 36 (by decide), si_1, if_neg (by omega)]
  refine ⟨⟨by rw [o 105 (by decide) (by decide) (by decide)]; exact k0, by rw [o 106 (by decide) (by decide) (by decide)]; exact k1, by rw [o 107 (by decide) (by decide) (by decide)]; exact k2, by rw [si_1, if_pos ⟨rfl, rfl⟩]; exact en, by rw [o 110 (by decide) (by decide) (by decide)]; exact k4⟩, ⟨kn1.eq (ol 121 (by decide)), kn2.eq (ol 122 (by decide))⟩, ?_, ?_, ?_, ?_, ⟨o117, by rw [o 118 (by decide) (by decide) (by decide)]; exact kf.2.1, by rw [o 119 (by decide) (by decide) (by decide)]; exact kf.2.2⟩, ?_⟩
  · rw [o 112 (by decide) (by decide) (by decide)]; exact kl
  · rw [o 113 (by decide) (by decide) (by decide), o 114 (by decide) (by decide) (by decide), o 115 (by decide) (by decide) (by decide)]; exact ks
  · rw [o 116 (by decide) (by decide) (by decide), o 120 (by decide) (by decide) (by decide)]; exact kw
  · exact kc.eq o36 (by rw [o 108 (by decide) (by decide) (by decide)]) (o 123 (by decide) (by decide) (by decide)) (o 124 (by decide) (by decide) (by decide))
  · rw [o 111 (by decide) (by decide) (by decide)]; exact k111
theorem y_draws (hE : RE Γ M b) (hQ : QS M bs (adv bs s)) (hK : RKB M b B) (hn : ¬ (bD B).isSome = true) : wp (f_X12_readLine_107 Γ M 102 (kwB 4)) (FQr b bs M (lDraws bs (s, B))) := by
  obtain ⟨hG, hR, hb, h35⟩ := id hE
  have eA : advU bs ((bD B).isSome = true) s = adv bs s := by unfold advU; rw [if_neg hn]
  have eL : lDraws bs (s, B) = (tSign bs 59 (tNum bs 1 999 (qp bs (adv bs s).1) (adv bs s)).2, (bR B, bH B, bB B, bN B, some (tNum bs 1 999 (qp bs (adv bs s).1) (adv bs s)).1, bL B)) := by
    unfold lDraws; simp only [eA]
  generalize lDraws bs (s, B) = xx at *
  rw [f_X12_readLine_107, wp_ite_t kwB_at.1.2.2.2.2.2.2.2.2.symm, wp_ck_t (GKk102 hG), MRf24 hR, wp_ck_t (GKk118 hG), h35, wp_ck_t (by rw [J_toInt (by omega) (by omega), GKl118 hG]; omega), J_clamp (by omega) (by omega), Int.toNat_natCast]
  have i35 : (rhsi M 118 b (vp_nar .boolean 1)).1 102 35 = J b := by rw [si_1, if_neg (by omega)]; exact h35
  simp only [i35]
  rw [show vp_nar .boolean 1 = (1 : Int32) from by decide]
  have Q1 : QS (rhsi M 118 b 1) bs (adv bs s) := hQ.c (by decide) (by decide) _ _
  have Y1 : YB b M (rhsi M 118 b 1) := (YB.refl b M).si (r := 118) (j := b) (by decide) (by decide) (by show b / 1 ≠ 1 - b; omega) 1
  have E1 := hE.yb Y1
  show wp ((f_X12_numeral Γ (rhsi M 118 b 1) 102 (J (1 : Nat)) (J (999 : Nat))).bind _) _
  rw [wp_bind]
  have qa := y_num (M := rhsi M 118 b 1) (a := 1) (b := 999) hG E1.2.1 Q1 (by decide) (by decide)
  refine qa.mono (fun n y => ?_)
  clear qa
  obtain ⟨y1, y2, y3⟩ := y
  generalize hl : tNum bs 1 999 (qp bs (adv bs s).1) (adv bs s) = l2 at *
  rw [MRf16 hR, wp_ck_t (GKk110 hG), wp_ck_t (by rw [J_toInt (by omega) (by omega), GKl110 hG]; omega)]
  show wp (f_X12_readLine_142 Γ (rhsi n.2 110 (J b).toNatClampNeg n.1) 102 (kwB 4)) _
  rw [J_clamp (by omega) (by omega), Int.toNat_natCast]
  have Y2 : YB b M (rhsi n.2 110 b n.1) := (Y1.trans (YB.yx hb y1)).si (r := 110) (j := b) (by decide) (by decide) (by show b / 1 ≠ 1 - b; omega) _
  rw [f_X12_readLine_142, wp_ite_f (by rw [kwB_at.2.1]; exact kwB_ne (by decide) (by decide) (by decide))]
  refine (y_177 (x := xx) (hE.yb Y2) (y2.c (by decide) (by decide) _ _) (by rw [eL]) (fun g => ?_)).mono (fun M' q => q.of Y2)
  rw [eL] at g
  have g1 := (tSign_good g).1
  have en := y3 g1
  clear g
  refine ⟨by rw [eL], ?_⟩
  rw [eL]
  obtain ⟨⟨k0, k1, k2, k3, k4⟩, ⟨kn1, kn2⟩, kl, ks, kw, kc, kf, k111⟩ := hK
  have o : ∀ r, r ≠ 102 → r ≠ 110 → r ≠ 118 → (rhsi n.2 110 b n.1).1 r = M.1 r := fun r h1 h2 h3 => by
    funext k; rw [si_1, if_neg (fun q => h2 q.1), y1.1.i (by simp only [List.mem_singleton]; exact h1), si_1, if_neg (fun q => h3 q.1)]
  have ol : ∀ r, r ≠ 102 → (rhsi n.2 110 b n.1).2.1 r = M.2.1 r := fun r h1 => by rw [si_2, y1.1.l (by simp only [List.mem_singleton]; exact h1)]; rfl
  have o118 : (rhsi n.2 110 b n.1).1 118 b = 1 := by rw [si_1, if_neg (by omega), y1.1.i (by decide), si_1, if_pos ⟨rfl, rfl⟩]
  have o36 : (rhsi n.2 110 b n.1).1 102 36 = M.1 102 36 := by rw [si_1, if_neg (by omega), y1.2 36 (by decide), si_1, if_neg (by omega)]
  refine ⟨⟨by rw [o 105 (by decide) (by decide) (by decide)]; exact k0, by rw [o 106 (by decide) (by decide) (by decide)]; exact k1, by rw [o 107 (by decide) (by decide) (by decide)]; exact k2, by rw [o 109 (by decide) (by decide) (by decide)]; exact k3, by rw [si_1, if_pos ⟨rfl, rfl⟩]; exact en⟩, ⟨kn1.eq (ol 121 (by decide)), kn2.eq (ol 122 (by decide))⟩, ?_, ?_, ?_, ?_, ⟨by rw [o 117 (by decide) (by decide) (by decide)]; exact kf.1, o118, by rw [o 119 (by decide) (by decide) (by decide)]; exact kf.2.2⟩, ?_⟩
  · rw [o 112 (by decide) (by decide) (by decide)]; exact kl
  · rw [o 113 (by decide) (by decide) (by decide), o 114 (by decide) (by decide) (by decide), o 115 (by decide) (by decide) (by decide)]; exact ks
  · rw [o 116 (by decide) (by decide) (by decide), o 120 (by decide) (by decide) (by decide)]; exact kw
  · exact kc.eq o36 (by rw [o 108 (by decide) (by decide) (by decide)]) (o 123 (by decide) (by decide) (by decide)) (o 124 (by decide) (by decide) (by decide))
  · rw [o 111 (by decide) (by decide) (by decide)]; exact k111
theorem y_law (hE : RE Γ M b) (hQ : QS M bs (adv bs s)) (hg : s.2.1 = 0) (hs : s.1 ≤ bs.length) (hK : RKB M b B) (hP : PW B) (hn : ¬ (bL B).isSome = true) : wp (f_X12_readLine_142 Γ M 102 (kwB 5)) (FQr b bs M (lLaw bs (s, B))) := by
  obtain ⟨hG, hR, hb, h35⟩ := id hE
  have eA : advU bs ((bL B).isSome = true) s = adv bs s := by unfold advU; rw [if_neg hn]
  have eL : lLaw bs (s, B) = (tSign bs 59 (pEk bs (bHn B) 7 (adv bs s, [], 0)).1, (bR B, bH B, bB B, bN B, bD B, some (pEk bs (bHn B) 7 (adv bs s, [], 0)).2)) := by
    unfold lLaw; simp only [eA]
  have e0 : bC B = ([], 0) := by
    unfold bC
    cases e : bL B with
    | none => rfl
    | some v => rw [e] at hn; exact absurd rfl hn
  obtain ⟨i, t1, t2, t3⟩ := id hQ.1
  have hlen := t1.1.2.2.1
  generalize lLaw bs (s, B) = xx at *
  rw [f_X12_readLine_142, wp_ite_t kwB_at.2.1.symm, wp_ck_t (GKk102 hG), MRf25 hR, wp_ck_t (GKk119 hG), h35, wp_ck_t (by rw [J_toInt (by omega) (by omega), GKl119 hG]; omega), J_clamp (by omega) (by omega), Int.toNat_natCast]
  rw [show vp_nar .boolean 1 = (1 : Int32) from by decide]
  have Q1 : QS (rhsi M 119 b 1) bs (adv bs s) := hQ.c (by decide) (by decide) _ _
  have Y1 : YB b M (rhsi M 119 b 1) := (YB.refl b M).si (r := 119) (j := b) (by decide) (by decide) (by show b / 1 ≠ 1 - b; omega) 1
  have E1 := hE.yb Y1
  have V1 : EV Γ (rhsi M 119 b 1) b (bHn B) := by
    have v := hE.ev hK hP
    exact ⟨v.1, v.2.1, v.2.2.1, by rw [si_1, if_neg (by omega)]; exact v.2.2.2.1, v.2.2.2.2.1, v.2.2.2.2.2.1, by rw [si_1, if_neg (by omega)]; exact v.2.2.2.2.2.2⟩
  have c36 : (rhsi M 119 b 1).1 102 36 = J (500 * b : Nat) := by
    have := hK.2.2.2.2.2.1.1
    rw [e0] at this
    rw [si_1, if_neg (by omega)]; exact this
  have c108 : (rhsi M 119 b 1).1 108 b = J (0 : Nat) := by
    have := hK.2.2.2.2.2.1.2.1
    rw [e0] at this
    rw [si_1, if_neg (by omega)]; exact this
  show wp ((f_X12_e Γ (rhsi M 119 b 1) 102).bind _) _
  rw [wp_bind]
  have qa := y_e (H := bHn B) (s := adv bs s) V1 Q1 hg (qn_le hs).2 hlen c36 c108
  refine qa.mono (fun M2 y => ?_)
  clear qa
  obtain ⟨y1, r, y2, y3, y4, y5⟩ := y
  have Y2 := Y1.trans (YB.yl hb y1)
  have E2 := hE.yb Y2
  rw [MRf17 E2.2.1, wp_ck_t (GKk111 hG), E2.2.2.2, wp_ck_t (by rw [J_toInt (by omega) (by omega), GKl111 hG]; omega), J_clamp (by omega) (by omega), Int.toNat_natCast]
  show wp (f_X12_readLine_177 Γ (rhsi M2 111 b (M2.1 102 36)) 102) _
  have Y3 : YB b M (rhsi M2 111 b (M2.1 102 36)) := Y2.si (r := 111) (j := b) (by decide) (by decide) (by show b / 1 ≠ 1 - b; omega) _
  refine (y_177 (x := xx) (s5 := r.1) (hE.yb Y3) (y2.c (by decide) (by decide) _ _) (by rw [y4, eL]) (fun g => ?_)).mono (fun M' q => q.of Y3)
  rw [eL] at g
  have er := y5 g
  have gr := (tSign_good g).1
  rw [← er] at gr
  have c3 := y3 gr
  rw [er] at c3
  clear g
  rw [er]
  refine ⟨by rw [eL], ?_⟩
  rw [eL]
  obtain ⟨⟨k0, k1, k2, k3, k4⟩, ⟨kn1, kn2⟩, kl, ks, kw, kc, kf, k111⟩ := hK
  have o : ∀ a, (a ∉ [102, 108, 111, 119, 123, 124, 125, 126]) → (rhsi M2 111 b (M2.1 102 36)).1 a = M.1 a := fun a h1 => by
    simp only [List.mem_cons, List.not_mem_nil, or_false, not_or] at h1
    funext k; rw [si_1, if_neg (fun q => h1.2.2.1 q.1), y1.1.i (by simp only [List.mem_cons, List.not_mem_nil, or_false, not_or]; exact ⟨h1.1, h1.2.1, h1.2.2.2.2.1, h1.2.2.2.2.2.1, h1.2.2.2.2.2.2.1, h1.2.2.2.2.2.2.2⟩), si_1, if_neg (fun q => h1.2.2.2.1 q.1)]
  have ol : ∀ a, a ≠ 102 ∧ a < 123 ∧ 120 < a → (rhsi M2 111 b (M2.1 102 36)).2.1 a = M.2.1 a := fun a h1 => by
    rw [si_2, y1.1.l (by simp only [List.mem_cons, List.not_mem_nil, or_false]; omega)]; rfl
  refine ⟨⟨by rw [o 105 (by decide)]; exact k0, by rw [o 106 (by decide)]; exact k1, by rw [o 107 (by decide)]; exact k2, by rw [o 109 (by decide)]; exact k3, by rw [o 110 (by decide)]; exact k4⟩, ⟨kn1.eq (ol 121 (by decide)), kn2.eq (ol 122 (by decide))⟩, ?_, ?_, ?_, ?_, ⟨by rw [o 117 (by decide)]; exact kf.1, by rw [o 118 (by decide)]; exact kf.2.1, ?_⟩, ?_⟩
  · rw [o 112 (by decide)]; exact kl
  · rw [o 113 (by decide), o 114 (by decide), o 115 (by decide)]; exact ks
  · rw [o 116 (by decide), o 120 (by decide)]; exact kw
  · exact c3.eq (by rw [si_1, if_neg (by omega)]) (by rw [si_1, if_neg (by omega)]) (by funext k; rw [si_1, if_neg (by omega)]) (by funext k; rw [si_1, if_neg (by omega)])
  · rw [si_1, if_neg (by omega), y1.1.i (by decide), si_1, if_pos ⟨rfl, rfl⟩]; rfl
  · rw [si_1, if_pos ⟨rfl, rfl⟩]; exact c3.1
end
