section
variable {Γ : rhG} {b : Nat} {M M' : rhM} {bs : List Int32} {B : Bd} {s : Ps}
theorem RKB.hx (h : RKB M b B) {r : Nat} (hr : r = 113 ∨ r = 114 ∨ r = 115) (v : Int32) : RKB (rhsi M r (8 * b + (bH B).length) v) b B := by
  obtain ⟨⟨k0, k1, k2, k3, k4⟩, ⟨kn1, kn2⟩, kl, ks, kw, kc, kf, k111⟩ := h
  have o : ∀ a, (a < 113 ∨ 115 < a) → (rhsi M r (8 * b + (bH B).length) v).1 a = M.1 a := fun a ha => by funext k; rw [si_1, if_neg (by omega)]
  refine ⟨⟨by rw [o 105 (by decide)]; exact k0, by rw [o 106 (by decide)]; exact k1, by rw [o 107 (by decide)]; exact k2, by rw [o 109 (by decide)]; exact k3, by rw [o 110 (by decide)]; exact k4⟩, ⟨kn1, kn2⟩, by rw [o 112 (by decide)]; exact kl, fun h hh => ?_, by rw [o 116 (by decide), o 120 (by decide)]; exact kw, kc.eq (by rw [o 102 (by decide)]) (by rw [o 108 (by decide)]) (o 123 (by decide)) (o 124 (by decide)), by rw [o 117 (by decide), o 118 (by decide), o 119 (by decide)]; exact kf, by rw [o 111 (by decide)]; exact k111⟩
  rw [si_1, if_neg (by omega), si_1, if_neg (by omega), si_1, if_neg (by omega)]
  exact ks h hh
theorem h8_ok (hb : b ≤ 1) (hH : (bH B).length < 8) {r : Nat} (hr : r = 113 ∨ r = 114 ∨ r = 115) : r ∈ YW ∧ r ≠ 102 ∧ (8 * b + (bH B).length) / bnk r ≠ 1 - b := by
  have e : bnk r = 8 := by rcases hr with rfl | rfl | rfl <;> rfl
  rw [e]
  exact ⟨by rcases hr with rfl | rfl | rfl <;> decide, by omega, by omega⟩
theorem y_house31 (hE : RE Γ M b) (hQ : QS M bs s) (hK : RKB M b B) (hP : PW B) (hH : (bH B).length < 8) {xx : Rs} (eL : xx = (tSign bs 59 (if qs bs (tTold bs (bRn B) (tWord bs 8 (tNum bs 1 99 (qp bs (tWord bs 7 (tNum bs 1 9 (qp bs (tWord bs 6 (tNew bs (bHn B) s).2).1) (tWord bs 6 (tNew bs (bHn B) s).2)).2).1) (tWord bs 7 (tNum bs 1 9 (qp bs (tWord bs 6 (tNew bs (bHn B) s).2).1) (tWord bs 6 (tNew bs (bHn B) s).2)).2)).2)).2.1 = 59 ∧ bLen B (tTold bs (bRn B) (tWord bs 8 (tNum bs 1 99 (qp bs (tWord bs 7 (tNum bs 1 9 (qp bs (tWord bs 6 (tNew bs (bHn B) s).2).1) (tWord bs 6 (tNew bs (bHn B) s).2)).2).1) (tWord bs 7 (tNum bs 1 9 (qp bs (tWord bs 6 (tNew bs (bHn B) s).2).1) (tWord bs 6 (tNew bs (bHn B) s).2)).2)).2)).1 < bOn B (tTold bs (bRn B) (tWord bs 8 (tNum bs 1 99 (qp bs (tWord bs 7 (tNum bs 1 9 (qp bs (tWord bs 6 (tNew bs (bHn B) s).2).1) (tWord bs 6 (tNew bs (bHn B) s).2)).2).1) (tWord bs 7 (tNum bs 1 9 (qp bs (tWord bs 6 (tNew bs (bHn B) s).2).1) (tWord bs 6 (tNew bs (bHn B) s).2)).2)).2)).1 + (tNum bs 1 9 (qp bs (tWord bs 6 (tNew bs (bHn B) s).2).1) (tWord bs 6 (tNew bs (bHn B) s).2)).1 then bla 6 (qp bs (tTold bs (bRn B) (tWord bs 8 (tNum bs 1 99 (qp bs (tWord bs 7 (tNum bs 1 9 (qp bs (tWord bs 6 (tNew bs (bHn B) s).2).1) (tWord bs 6 (tNew bs (bHn B) s).2)).2).1) (tWord bs 7 (tNum bs 1 9 (qp bs (tWord bs 6 (tNew bs (bHn B) s).2).1) (tWord bs 6 (tNew bs (bHn B) s).2)).2)).2)).2.1) (tTold bs (bRn B) (tWord bs 8 (tNum bs 1 99 (qp bs (tWord bs 7 (tNum bs 1 9 (qp bs (tWord bs 6 (tNew bs (bHn B) s).2).1) (tWord bs 6 (tNew bs (bHn B) s).2)).2).1) (tWord bs 7 (tNum bs 1 9 (qp bs (tWord bs 6 (tNew bs (bHn B) s).2).1) (tWord bs 6 (tNew bs (bHn B) s).2)).2)).2)).2 else (tTold bs (bRn B) (tWord bs 8 (tNum bs 1 99 (qp bs (tWord bs 7 (tNum bs 1 9 (qp bs (tWord bs 6 (tNew bs (bHn B) s).2).1) (tWord bs 6 (tNew bs (bHn B) s).2)).2).1) (tWord bs 7 (tNum bs 1 9 (qp bs (tWord bs 6 (tNew bs (bHn B) s).2).1) (tWord bs 6 (tNew bs (bHn B) s).2)).2)).2)).2), (bR B, bH B ++ [((tNew bs (bHn B) s).1, (tNum bs 1 9 (qp bs (tWord bs 6 (tNew bs (bHn B) s).2).1) (tWord bs 6 (tNew bs (bHn B) s).2)).1, (tNum bs 1 99 (qp bs (tWord bs 7 (tNum bs 1 9 (qp bs (tWord bs 6 (tNew bs (bHn B) s).2).1) (tWord bs 6 (tNew bs (bHn B) s).2)).2).1) (tWord bs 7 (tNum bs 1 9 (qp bs (tWord bs 6 (tNew bs (bHn B) s).2).1) (tWord bs 6 (tNew bs (bHn B) s).2)).2)).1, (tTold bs (bRn B) (tWord bs 8 (tNum bs 1 99 (qp bs (tWord bs 7 (tNum bs 1 9 (qp bs (tWord bs 6 (tNew bs (bHn B) s).2).1) (tWord bs 6 (tNew bs (bHn B) s).2)).2).1) (tWord bs 7 (tNum bs 1 9 (qp bs (tWord bs 6 (tNew bs (bHn B) s).2).1) (tWord bs 6 (tNew bs (bHn B) s).2)).2)).2)).1)], B.2.2))) (v : Int32) (hv : s.2.1 = 0 → (v = 0) = (hre bs (bHn B) s.1 < 0)) :
    wp (f_X12_readHouse_31 Γ M 102 (J (8 * b + (bH B).length : Nat)) 102 v) (fun M' => YB b M M' ∧ ∃ s5, QS M' bs s5 ∧ (tSign bs 59 s5).2 = xx.1.2 ∧ (xx.1.2.1 = 0 → tSign bs 59 s5 = xx.1 ∧ RKB M' b xx.2)) := by
  obtain ⟨hG, hRm, hb, h35⟩ := id hE
  have hbig := FU_big
  have h5 := hP.1.1
  have k13 := h8_ok (B := B) hb hH (r := 113) (by decide)
  have k14 := h8_ok (B := B) hb hH (r := 114) (by decide)
  have k15 := h8_ok (B := B) hb hH (r := 115) (by decide)
  rw [f_X12_readHouse_31, wp_ck_t (GKk102 hG), wp_bind]
  have qf := y_fresh (H := bHn B) hG hRm hQ hv
  refine qf.mono (fun n z => ?_)
  clear qf
  obtain ⟨z1, z2, z3⟩ := z
  generalize hn : tNew bs (bHn B) s = n2 at *
  have E1 := z1.re hE
  have Y1 : YB b M n.2 := YB.yx hb z1
  have K1 := hK.yx z1
  show wp (rhck (Γ.2.2.1 102 = 13) <| (f_X12_after Γ n.2 102 119182899770472 (J (1 : Nat)) (J (9 : Nat))).bind _) _
  rw [wp_ck_t (GKk102 hG), wp_bind]
  have qa := y_after (M := n.2) (v := 119182899770472) (x := 1) (y := 9) hG E1.2.1 z2 (k := 6) (by decide) kwB_at.1.2.1 (by decide) (by decide)
  refine qa.mono (fun l y => ?_)
  clear qa
  obtain ⟨y1, y2, y3⟩ := y
  generalize hw : tWord bs 6 n2.2 = s3 at *
  have l99 := tNum_le (bs := bs) (s := s3) (a := 1) (b := 9) (p := qp bs s3.1) (by decide)
  generalize hl : tNum bs 1 9 (qp bs s3.1) s3 = l2 at *
  have E2 := y1.re E1
  have K2 := K1.yx y1
  have Y2 := Y1.trans (YB.yx hb y1)
  rw [MRf19 E1.2.1, wp_ck_t (GKk113 hG), wp_ck_t (by rw [J_toInt (by omega) (by omega), GKl113 hG]; omega), J_clamp (by omega) (by omega), Int.toNat_natCast]
  have K3 := K2.hx (r := 113) (by decide) l.1
  have Y3 := Y2.si (r := 113) k13.1 k13.2.1 k13.2.2 l.1
  have Q3 : QS (rhsi l.2 113 (8 * b + (bH B).length) l.1) bs l2.2 := y2.c (by decide) (by decide) _ _
  have i13 : (rhsi l.2 113 (8 * b + (bH B).length) l.1).1 113 (8 * b + (bH B).length) = l.1 := by rw [si_1, if_pos ⟨rfl, rfl⟩]
  have E3 := hE.yb Y3
  show wp ((f_X12_after Γ (rhsi l.2 113 (8 * b + (bH B).length) l.1) 102 131277443786868 (J (1 : Nat)) (J (99 : Nat))).bind _) _
  rw [MRf20 E2.2.1]
  generalize rhsi l.2 113 (8 * b + (bH B).length) l.1 = M3 at *
  rw [wp_bind]
  have qa := y_after (M := M3) (v := 131277443786868) (x := 1) (y := 99) hG E3.2.1 Q3 (k := 7) (by decide) kwB_at.1.2.2.2.1 (by decide) (by decide)
  refine qa.mono (fun w u => ?_)
  clear qa
  obtain ⟨u1, u2, u3⟩ := u
  generalize hw2 : tWord bs 7 l2.2 = s5 at *
  generalize hl2 : tNum bs 1 99 (qp bs s5.1) s5 = w2 at *
  have K4 := K3.yx u1
  have Y4 := Y3.trans (YB.yx hb u1)
  have K5 := K4.hx (r := 114) (by decide) w.1
  have Y5 := Y4.si (r := 114) k14.1 k14.2.1 k14.2.2 w.1
  have Q5 : QS (rhsi w.2 114 (8 * b + (bH B).length) w.1) bs w2.2 := u2.c (by decide) (by decide) _ _
  have i14 : (rhsi w.2 114 (8 * b + (bH B).length) w.1).1 114 (8 * b + (bH B).length) = w.1 := by rw [si_1, if_pos ⟨rfl, rfl⟩]
  have i13b : (rhsi w.2 114 (8 * b + (bH B).length) w.1).1 113 (8 * b + (bH B).length) = l.1 := by rw [si_1, if_neg (by omega), u1.1.i (by decide)]; exact i13
  rw [wp_ck_t (GKk114 hG), wp_ck_t (by rw [J_toInt (by omega) (by omega), GKl114 hG]; omega)]
  generalize rhsi w.2 114 (8 * b + (bH B).length) w.1 = M5 at *
  have E5 := hE.yb Y5
  refine y_word hG E5.2.1 Q5 (k := 8) (by decide) kwB_at.1.2.2.2.2.1 (fun M6 x1 x2 => ?_)
  generalize hw3 : tWord bs 8 w2.2 = s7 at *
  have E6 := x1.re E5
  have K6 := K5.yx x1
  have Y6 := Y5.trans (YB.yx hb x1)
  obtain ⟨i, t1, t2, t3⟩ := id x2.1
  have hr := hre_rng bs (bRn B) i
  have lR : (bRn B).length = (bR B).length := List.length_map _
  rw [wp_bind, y_railHere E6 K6 hP t1, wp_some, wp_bind]
  have qk := y_known (H := bRn B) hG E6.2.1 x2 (by omega) (z := hre bs (bRn B) i) (by omega) (fun g => by rw [t3 g])
  refine qk.mono (fun r p => ?_)
  clear qk
  obtain ⟨p1, p2, p3, p4⟩ := p
  generalize hr2 : tTold bs (bRn B) s7 = r2 at *
  have E7 := p1.re E6
  have K7 := K6.yx p1
  have Y7 := Y6.trans (YB.yx hb p1)
  rw [MRf21 E7.2.1, wp_ck_t (GKk115 hG), wp_ck_t (by rw [J_toInt (by omega) (by omega), GKl115 hG]; omega)]
  have K8 := K7.hx (r := 115) (by decide) r.1
  have Y8 := Y7.si (r := 115) k15.1 k15.2.1 k15.2.2 r.1
  have Q8 : QS (rhsi r.2 115 (8 * b + (bH B).length) r.1) bs r2.2 := p2.c (by decide) (by decide) _ _
  have j13 : (rhsi r.2 115 (8 * b + (bH B).length) r.1).1 113 (8 * b + (bH B).length) = l.1 := by rw [si_1, if_neg (by omega), p1.1.i (by decide), x1.1.i (by decide)]; exact i13b
  have j14 : (rhsi r.2 115 (8 * b + (bH B).length) r.1).1 114 (8 * b + (bH B).length) = w.1 := by rw [si_1, if_neg (by omega), p1.1.i (by decide), x1.1.i (by decide)]; exact i14
  have j15 : (rhsi r.2 115 (8 * b + (bH B).length) r.1).1 115 (8 * b + (bH B).length) = r.1 := by rw [si_1, if_pos ⟨rfl, rfl⟩]
  have E8 := hE.yb Y8
  show wp ((f_X12_isGood Γ (rhsi r.2 115 (8 * b + (bH B).length) r.1) 102).bind _) _
  rw [MRf19 E7.2.1]
  generalize rhsi r.2 115 (8 * b + (bH B).length) r.1 = M8 at *
  rw [wp_bind, y_good hG Q8, wp_some]
  by_cases g : r2.2.2.1 = 0
  · rw [if_pos g, wp_ite_f (by decide), wp_ck_t (GKk113 hG), wp_ck_t (by rw [J_toInt (by omega) (by omega), GKl113 hG]; omega), j13, E8.2.2.2]
    have g7 := tTold_good (bs := bs) (H := bRn B) (s := s7) (by rw [hr2]; exact g)
    have gw : w2.2.2.1 = 0 := (tWord_good (bs := bs) (w := 8) (s := w2.2) (by rw [hw3]; exact g7.1)).1
    have g5 : s5.2.1 = 0 := (tNum_good (bs := bs) (a := 1) (b := 99) (p := qp bs s5.1) (s := s5) (by rw [hl2]; exact gw)).1
    have gl : l2.2.2.1 = 0 := (tWord_good (bs := bs) (w := 7) (s := l2.2) (by rw [hw2]; exact g5)).1
    have g3 : s3.2.1 = 0 := (tNum_good (bs := bs) (a := 1) (b := 9) (p := qp bs s3.1) (s := s3) (by rw [hl]; exact gl)).1
    have gn : n2.2.2.1 = 0 := (tWord_good (bs := bs) (w := 6) (s := n2.2) (by rw [hw]; exact g3)).1
    obtain ⟨na, nb, nc⟩ := z3 gn
    have el := y3 gl
    have ew := u3 gw
    have er := p3 g
    have lt : r2.1 < (bR B).length := by
      have e := g7.2.2.2.1
      rw [hr2] at e
      rw [e, ← lR]; exact g7.2.2.2.2
    clear g7 gw g5 gl g3 gn
    show wp (f_X12_readHouse_121 (f_X12_readHouse_161 Γ) Γ rhFU M8 102 (J (8 * b + (bH B).length : Nat)) n.1 r.1 l.1 (8 * J b)) _
    have e8 : 8 * J b = J ((8 * b + 0 : Nat) : Int) := by rw [show (8 : Int32) = J 8 from rfl, J_mul]; congr 1
    rw [e8, er, el, y_h121 E8 K8 hP n.1 r2.1 (by omega) _ (bH B).length 0 rhFU l2.1 (by omega) (by omega), ← List.range_eq_range']
    have := y_h161 (l := l2.1) (w := w2.1) (nm := n2.1) E8 hP K8 hH Q8 g lt l99 (by rw [j13]; exact el) (by rw [j14]; exact ew) (by rw [j15]; exact er) na nb nc eL
    rw [bOn_hOn] at this
    exact this.mono (fun M' q => ⟨Y8.trans q.1, q.2⟩)
  · rw [if_neg g, wp_ite_t rfl, wp_some]
    have e5 : (if qs bs r2.2.1 = 59 ∧ bLen B r2.1 < bOn B r2.1 + l2.1 then bla 6 (qp bs r2.2.1) r2.2 else r2.2) = r2.2 := by
      split
      · exact bla_st g
      · rfl
    rw [e5] at eL
    refine ⟨Y8, r2.2, Q8, by rw [eL], fun q => ?_⟩
    rw [eL] at q
    exact absurd (tSign_good q).1 g
theorem y_readHouse : RLn Γ b bs (f_X12_readHouse) (lHouse bs) (fun B => 8 ≤ (bH B).length) := by
  intro M s B hE hQ hg hK hP hc
  obtain ⟨hG, hRm, hb, h35⟩ := id hE
  obtain ⟨i, t1, t2, t3⟩ := id hQ.1
  have hr := hre_rng bs (bHn B) i
  have lH : (bHn B).length = (bH B).length := List.length_map _
  have eA : advU bs (8 ≤ (bH B).length) s = adv bs s := by unfold advU; rw [if_neg hc]
  have hc : ¬ 8 ≤ (bH B).length := hc
  have eL : lHouse bs (s, B) = (tSign bs 59 (if qs bs (tTold bs (bRn B) (tWord bs 8 (tNum bs 1 99 (qp bs (tWord bs 7 (tNum bs 1 9 (qp bs (tWord bs 6 (tNew bs (bHn B) (adv bs s)).2).1) (tWord bs 6 (tNew bs (bHn B) (adv bs s)).2)).2).1) (tWord bs 7 (tNum bs 1 9 (qp bs (tWord bs 6 (tNew bs (bHn B) (adv bs s)).2).1) (tWord bs 6 (tNew bs (bHn B) (adv bs s)).2)).2)).2)).2.1 = 59 ∧ bLen B (tTold bs (bRn B) (tWord bs 8 (tNum bs 1 99 (qp bs (tWord bs 7 (tNum bs 1 9 (qp bs (tWord bs 6 (tNew bs (bHn B) (adv bs s)).2).1) (tWord bs 6 (tNew bs (bHn B) (adv bs s)).2)).2).1) (tWord bs 7 (tNum bs 1 9 (qp bs (tWord bs 6 (tNew bs (bHn B) (adv bs s)).2).1) (tWord bs 6 (tNew bs (bHn B) (adv bs s)).2)).2)).2)).1 < bOn B (tTold bs (bRn B) (tWord bs 8 (tNum bs 1 99 (qp bs (tWord bs 7 (tNum bs 1 9 (qp bs (tWord bs 6 (tNew bs (bHn B) (adv bs s)).2).1) (tWord bs 6 (tNew bs (bHn B) (adv bs s)).2)).2).1) (tWord bs 7 (tNum bs 1 9 (qp bs (tWord bs 6 (tNew bs (bHn B) (adv bs s)).2).1) (tWord bs 6 (tNew bs (bHn B) (adv bs s)).2)).2)).2)).1 + (tNum bs 1 9 (qp bs (tWord bs 6 (tNew bs (bHn B) (adv bs s)).2).1) (tWord bs 6 (tNew bs (bHn B) (adv bs s)).2)).1 then bla 6 (qp bs (tTold bs (bRn B) (tWord bs 8 (tNum bs 1 99 (qp bs (tWord bs 7 (tNum bs 1 9 (qp bs (tWord bs 6 (tNew bs (bHn B) (adv bs s)).2).1) (tWord bs 6 (tNew bs (bHn B) (adv bs s)).2)).2).1) (tWord bs 7 (tNum bs 1 9 (qp bs (tWord bs 6 (tNew bs (bHn B) (adv bs s)).2).1) (tWord bs 6 (tNew bs (bHn B) (adv bs s)).2)).2)).2)).2.1) (tTold bs (bRn B) (tWord bs 8 (tNum bs 1 99 (qp bs (tWord bs 7 (tNum bs 1 9 (qp bs (tWord bs 6 (tNew bs (bHn B) (adv bs s)).2).1) (tWord bs 6 (tNew bs (bHn B) (adv bs s)).2)).2).1) (tWord bs 7 (tNum bs 1 9 (qp bs (tWord bs 6 (tNew bs (bHn B) (adv bs s)).2).1) (tWord bs 6 (tNew bs (bHn B) (adv bs s)).2)).2)).2)).2 else (tTold bs (bRn B) (tWord bs 8 (tNum bs 1 99 (qp bs (tWord bs 7 (tNum bs 1 9 (qp bs (tWord bs 6 (tNew bs (bHn B) (adv bs s)).2).1) (tWord bs 6 (tNew bs (bHn B) (adv bs s)).2)).2).1) (tWord bs 7 (tNum bs 1 9 (qp bs (tWord bs 6 (tNew bs (bHn B) (adv bs s)).2).1) (tWord bs 6 (tNew bs (bHn B) (adv bs s)).2)).2)).2)).2), (bR B, bH B ++ [((tNew bs (bHn B) (adv bs s)).1, (tNum bs 1 9 (qp bs (tWord bs 6 (tNew bs (bHn B) (adv bs s)).2).1) (tWord bs 6 (tNew bs (bHn B) (adv bs s)).2)).1, (tNum bs 1 99 (qp bs (tWord bs 7 (tNum bs 1 9 (qp bs (tWord bs 6 (tNew bs (bHn B) (adv bs s)).2).1) (tWord bs 6 (tNew bs (bHn B) (adv bs s)).2)).2).1) (tWord bs 7 (tNum bs 1 9 (qp bs (tWord bs 6 (tNew bs (bHn B) (adv bs s)).2).1) (tWord bs 6 (tNew bs (bHn B) (adv bs s)).2)).2)).1, (tTold bs (bRn B) (tWord bs 8 (tNum bs 1 99 (qp bs (tWord bs 7 (tNum bs 1 9 (qp bs (tWord bs 6 (tNew bs (bHn B) (adv bs s)).2).1) (tWord bs 6 (tNew bs (bHn B) (adv bs s)).2)).2).1) (tWord bs 7 (tNum bs 1 9 (qp bs (tWord bs 6 (tNew bs (bHn B) (adv bs s)).2).1) (tWord bs 6 (tNew bs (bHn B) (adv bs s)).2)).2)).2)).1)], B.2.2)) := by
    unfold lHouse; simp only [eA]
  have main := fun v hv => y_house31 hE hQ hK hP (by omega) eL v hv
  have e8 : 8 * J b + J (bH B).length = J ((8 * b + (bH B).length : Nat) : Int) := by rw [show (8 : Int32) = J 8 from rfl, J_mul, J_add]; congr 1
  rw [f_X12_readHouse, wp_ck_t (GKk102 hG), MRf12 hRm, wp_ck_t (GKk106 hG), h35, wp_ck_t (by rw [J_toInt (by omega) (by omega), GKl106 hG]; omega), J_clamp (by omega) (by omega), Int.toNat_natCast, hK.1.2.1, e8, wp_bind, y_houseHere (hE.ev hK hP) t1, wp_some]
  have e0 : (J (hre bs (bHn B) i) < 0) = (hre bs (bHn B) i < 0) := y_hre0 (by omega)
  by_cases c : hre bs (bHn B) i < 0
  · rw [wp_ite_t (by rw [e0]; exact c)]
    exact main 0 (fun g => by rw [← t3 g]; exact propext ⟨fun _ => c, fun _ => rfl⟩)
  · rw [wp_ite_f (by rw [e0]; exact c)]
    exact main 1 (fun g => by rw [← t3 g]; exact propext ⟨fun q => absurd q (by decide), fun q => absurd q c⟩)
end
