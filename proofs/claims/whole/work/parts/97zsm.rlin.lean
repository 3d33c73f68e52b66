/-- a line's reader in the reference, behind its first word -/
def RLn (Γ : rhG) (b : Nat) (bs : List Int32) (f : rhG → rhM → Nat → Option rhM) (g : Rs → Rs) (c : Bd → Prop) : Prop := ∀ M s B, RE Γ M b → QS M bs (adv bs s) → s.2.1 = 0 → RKB M b B → PW B → ¬ c B → wp (f Γ M 102) (fun M' => YB b M M' ∧ ∃ s5, QS M' bs s5 ∧ (tSign bs 59 s5).2 = (g (s, B)).1.2 ∧ ((g (s, B)).1.2.1 = 0 → tSign bs 59 s5 = (g (s, B)).1 ∧ RKB M' b (g (s, B)).2))
section
variable {Γ : rhG} {b : Nat} {M M' : rhM} {bs : List Int32} {B : Bd} {s : Ps}
theorem y_hre0 {z : Int} (hz : -1 ≤ z ∧ z < 100) : (J z < 0) = (z < 0) := by rw [show (0 : Int32) = J 0 from rfl, J_lt (by omega) (by omega) (by omega) (by omega)]
theorem y_rail2 (hE : RE Γ M b) (hQ : QS M bs s) (hK : RKB M b B) (hP : PW B) (hR5 : (bR B).length < 5) {xx : Rs} (eL : xx = (tSign bs 59 (tNum bs 1 99 (qp bs (tWord bs 6 (tNew bs (bRn B) s).2).1) (tWord bs 6 (tNew bs (bRn B) s).2)).2, (bR B ++ [((tNew bs (bRn B) s).1, (tNum bs 1 99 (qp bs (tWord bs 6 (tNew bs (bRn B) s).2).1) (tWord bs 6 (tNew bs (bRn B) s).2)).1)], B.2))) (v : Int32) (hv : s.2.1 = 0 → (v = 0) = (hre bs (bRn B) s.1 < 0)) :
    wp (f_X12_readRail_35 Γ M 102 (J (5 * b + (bR B).length : Nat)) 121 (J (5 * b + (bR B).length : Nat)) 102 v) (fun M' => YB b M M' ∧ ∃ s5, QS M' bs s5 ∧ (tSign bs 59 s5).2 = xx.1.2 ∧ (xx.1.2.1 = 0 → tSign bs 59 s5 = xx.1 ∧ RKB M' b xx.2)) := by
  obtain ⟨hG, hR, hb, h35⟩ := id hE
  have lR : (bRn B).length = (bR B).length := List.length_map _
  rw [f_X12_readRail_35, wp_ck_t (GKk102 hG), wp_bind]
  refine (y_fresh (H := bRn B) hG hR hQ hv).mono (fun n z => ?_)
  obtain ⟨z1, z2, z3⟩ := z
  generalize hn : tNew bs (bRn B) s = n2 at *
  have E1 := z1.re hE
  have q1 : QS (rhsl n.2 121 (5 * b + (bR B).length) n.1) bs n2.2 := z2.sl (by decide) _ _
  rw [wp_ck_t (GKk121 hG), wp_ck_t (by rw [J_toInt (by omega) (by omega), GKl121 hG]; omega), J_clamp (by omega) (by omega), Int.toNat_natCast]
  rw [wp_ck_t (GKk102 hG)]
  show wp ((f_X12_after Γ (rhsl n.2 121 (5 * b + (bR B).length) n.1) 102 119182899770472 (J (1 : Nat)) (J (99 : Nat))).bind _) _
  rw [wp_bind]
  have qa := y_after (M := rhsl n.2 121 (5 * b + (bR B).length) n.1) (v := 119182899770472) (x := 1) (y := 99) hG E1.2.1 q1 (k := 6) (by decide) kwB_at.1.2.1 (by decide) (by decide)
  refine qa.mono (fun l y => ?_)
  clear qa
  obtain ⟨y1, y2, y3⟩ := y
  generalize hw : tWord bs 6 n2.2 = s3 at *
  generalize hl : tNum bs 1 99 (qp bs s3.1) s3 = l2 at *
  have Y1 : YB b M (rhsl n.2 121 (5 * b + (bR B).length) n.1) := (YB.yx hb z1).sl (by decide) _
  have Y2 : YB b M l.2 := Y1.trans (YB.yx hb y1)
  have E2 := hE.yb Y2
  rw [MRf18 E1.2.1, wp_ck_t (GKk112 hG), wp_ck_t (by rw [J_toInt (by omega) (by omega), GKl112 hG]; omega), MRf11 E2.2.1, wp_ck_t (GKk105 hG)]
  have i35 : (rhsi l.2 112 (5 * b + (bR B).length) l.1).1 102 35 = J b := by rw [si_1, if_neg (by omega)]; exact E2.2.2.2
  simp only [i35]
  rw [wp_ck_t (by rw [J_toInt (by omega) (by omega), GKl105 hG]; omega), J_clamp (by omega) (by omega), Int.toNat_natCast, wp_some]
  have e105 : (rhsi l.2 112 (5 * b + (bR B).length) l.1).1 105 b + 1 = J ((bR B).length + 1 : Nat) := by
    rw [si_1, if_neg (by omega), y1.1.i (by decide), sl_1, z1.1.i (by decide), hK.1.1, show (1 : Int32) = J 1 from rfl, J_add, J_suc]
  rw [e105]
  have K1 := hK.yx z1
  have h5b : (5 * b + (bR B).length) / 5 ≠ 1 - b := by omega
  refine ⟨(Y2.si (r := 112) (by decide) (by decide) h5b _).si (r := 105) (j := b) (by decide) (by decide) (by show b / 1 ≠ 1 - b; omega) _, l2.2, (y2.c (by decide) (by decide) _ _).c (by decide) (by decide) _ _, by rw [eL], fun g => ?_⟩
  rw [eL] at g
  have g1 := (tSign_good g).1
  have g2 : s3.2.1 = 0 := (tNum_good (bs := bs) (a := 1) (b := 99) (p := qp bs s3.1) (s := s3) (by rw [hl]; exact g1)).1
  have g3 : n2.2.2.1 = 0 := (tWord_good (bs := bs) (w := 6) (s := n2.2) (by rw [hw]; exact g2)).1
  clear g
  obtain ⟨na, nb, nc⟩ := z3 g3
  have l1 := y3 g1
  refine ⟨by rw [eL], ?_⟩
  rw [eL]
  obtain ⟨⟨k0, k1, k2, k3, k4⟩, ⟨kn1, kn2⟩, kl, ks, kw, kc, kf, k111⟩ := K1
  generalize hM6 : rhsi (rhsi l.2 112 (5 * b + (bR B).length) l.1) 105 b (J ((bR B).length + 1 : Nat)) = M6 at *
  have o : ∀ r, r ≠ 102 → r ≠ 105 → r ≠ 112 → M6.1 r = n.2.1 r := fun r h1 h2 h3 => by
    rw [← hM6]; funext k
    rw [si_1, if_neg (fun q => h2 q.1), si_1, if_neg (fun q => h3 q.1), y1.1.i (by simp only [List.mem_singleton]; exact h1), sl_1]
  have ol : ∀ r, r ≠ 102 → M6.2.1 r = (rhsl n.2 121 (5 * b + (bR B).length) n.1).2.1 r := fun r h1 => by
    rw [← hM6, si_2, si_2, y1.1.l (by simp only [List.mem_singleton]; exact h1)]
  have f36 : M6.1 102 36 = n.2.1 102 36 := by rw [← hM6, si_1, if_neg (by omega), si_1, if_neg (by omega), y1.2 36 (by decide), sl_1]
  refine ⟨⟨?_, by rw [o 106 (by decide) (by decide) (by decide)]; exact k1, by rw [o 107 (by decide) (by decide) (by decide)]; exact k2, by rw [o 109 (by decide) (by decide) (by decide)]; exact k3, by rw [o 110 (by decide) (by decide) (by decide)]; exact k4⟩, ⟨?_, ?_⟩, fun r hr => ?_, ?_, ?_, ?_, ?_, ?_⟩
  · show M6.1 105 b = J ((bR B ++ [(n2.1, l2.1)]).length : Nat)
    rw [← hM6, si_1, if_pos ⟨rfl, rfl⟩, List.length_append, List.length_singleton]
  · show RN M6 121 (5 * b) ((bR B ++ [(n2.1, l2.1)]).map fun x => x.1)
    rw [List.map_append]
    refine RN.add (H := bRn B) kn1 (fun k hk => ?_) ?_ nb nc
    · rw [ol 121 (by decide), sl_2, if_neg (by omega)]
    · rw [ol 121 (by decide), sl_2, if_pos ⟨rfl, by omega⟩]; exact na
  · refine kn2.eq ?_
    rw [ol 122 (by decide)]; funext k; rw [sl_2, if_neg (by omega)]
  · rw [bLen_add]
    have hr : r < (bR B ++ [(n2.1, l2.1)]).length := hr
    rw [List.length_append, List.length_singleton] at hr
    rw [← hM6, si_1, if_neg (by omega), si_1]
    by_cases c : r = (bR B).length
    · rw [if_pos ⟨rfl, by omega⟩, if_pos c]; exact l1
    · rw [if_neg (by omega), if_neg c, y1.1.i (by decide), sl_1]; exact kl r (by omega)
  · rw [o 113 (by decide) (by decide) (by decide), o 114 (by decide) (by decide) (by decide), o 115 (by decide) (by decide) (by decide)]; exact ks
  · rw [o 116 (by decide) (by decide) (by decide), o 120 (by decide) (by decide) (by decide)]; exact kw
  · exact kc.eq f36 (by rw [o 108 (by decide) (by decide) (by decide)]) (o 123 (by decide) (by decide) (by decide)) (o 124 (by decide) (by decide) (by decide))
  · rw [o 117 (by decide) (by decide) (by decide), o 118 (by decide) (by decide) (by decide), o 119 (by decide) (by decide) (by decide)]; exact kf
  · rw [o 111 (by decide) (by decide) (by decide)]; exact k111
theorem y_readRail : RLn Γ b bs (f_X12_readRail) (lRail bs) (fun B => 5 ≤ (bR B).length) := by
  intro M s B hE hQ hg hK hP hc
  obtain ⟨hG, hR, hb, h35⟩ := id hE
  obtain ⟨i, t1, t2, t3⟩ := id hQ.1
  have hr := hre_rng bs (bRn B) i
  have lR : (bRn B).length = (bR B).length := List.length_map _
  have eA : advU bs (5 ≤ (bR B).length) s = adv bs s := by unfold advU; rw [if_neg hc]
  have hc : ¬ 5 ≤ (bR B).length := hc
  have eL : lRail bs (s, B) = (tSign bs 59 (tNum bs 1 99 (qp bs (tWord bs 6 (tNew bs (bRn B) (adv bs s)).2).1) (tWord bs 6 (tNew bs (bRn B) (adv bs s)).2)).2, (bR B ++ [((tNew bs (bRn B) (adv bs s)).1, (tNum bs 1 99 (qp bs (tWord bs 6 (tNew bs (bRn B) (adv bs s)).2).1) (tWord bs 6 (tNew bs (bRn B) (adv bs s)).2)).1)], B.2)) := by
    unfold lRail; simp only [eA]
  have main := fun v hv => y_rail2 hE hQ hK hP (by omega) eL v hv
  have e5 : 5 * J b + J (bR B).length = J ((5 * b + (bR B).length : Nat) : Int) := by rw [show (5 : Int32) = J 5 from rfl, J_mul, J_add]; congr 1
  rw [f_X12_readRail, wp_ck_t (GKk102 hG), MRf11 hR, wp_ck_t (GKk105 hG), h35, wp_ck_t (by rw [J_toInt (by omega) (by omega), GKl105 hG]; omega), J_clamp (by omega) (by omega), Int.toNat_natCast, hK.1.1, e5, wp_bind, y_railHere hE hK hP t1, wp_some, MRf27 hR]
  have e0 : (J (hre bs (bRn B) i) < 0) = (hre bs (bRn B) i < 0) := y_hre0 (by omega)
  by_cases c : hre bs (bRn B) i < 0
  · rw [wp_ite_t (by rw [e0]; exact c)]
    exact main 0 (fun g => by rw [← t3 g]; exact propext ⟨fun _ => c, fun _ => rfl⟩)
  · rw [wp_ite_f (by rw [e0]; exact c)]
    exact main 1 (fun g => by rw [← t3 g]; exact propext ⟨fun q => absurd q (by decide), fun q => absurd q c⟩)
end
