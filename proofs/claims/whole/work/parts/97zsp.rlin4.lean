section
variable {Γ : rhG} {b : Nat} {M M' : rhM} {bs : List Int32} {B : Bd} {s : Ps}
theorem y_b63 (hE : RE Γ M b) (hK : RKB M b B) (hP : PW B) {sa : Ps} (hQ : QS M bs sa) {a0 : Nat} (ha0 : a0 < 8) {z : Int} (hz : -1 ≤ z ∧ z < 8) (hv : sa.2.1 = 0 → z = hre bs (bHn B) sa.1) {xx : Rs} (hx1 : (tSign bs 59 (tSNum bs 99 (tWord bs 9 (tTold bs (bHn B) sa).2)).2).2 = xx.1.2)
    (hx2 : xx.1.2.1 = 0 → tSign bs 59 (tSNum bs 99 (tWord bs 9 (tTold bs (bHn B) sa).2)).2 = xx.1 ∧ xx.2 = (bR B, bH B, bB B ++ [(a0, (tTold bs (bHn B) sa).1, (tSNum bs 99 (tWord bs 9 (tTold bs (bHn B) sa).2)).1)], B.2.2.2) ∧ (tTold bs (bHn B) sa).1 < 8 ∧ bIs B a0 (tTold bs (bHn B) sa).1 = false ∧ (bB B).length < 20) :
    wp (f_X12_readBeside_63 Γ M 102 (J a0) (J z) (J (64 * b + 8 * a0 : Nat))) (fun M' => YB b M M' ∧ ∃ s5, QS M' bs s5 ∧ (tSign bs 59 s5).2 = xx.1.2 ∧ (xx.1.2.1 = 0 → tSign bs 59 s5 = xx.1 ∧ RKB M' b xx.2)) := by
  obtain ⟨hG, hRm, hb, h35⟩ := id hE
  have lH : (bHn B).length = (bH B).length := List.length_map _
  have h8 := hP.1.2.1
  rw [f_X12_readBeside_63, wp_ck_t (GKk102 hG), wp_bind]
  have qk := y_known (H := bHn B) hG hRm hQ (by omega) (z := z) (by omega) hv
  refine qk.mono (fun r p => ?_)
  clear qk
  obtain ⟨p1, p2, p3, p4⟩ := p
  generalize hr2 : tTold bs (bHn B) sa = r2 at *
  have E1 := p1.re hE
  have K1 := hK.yx p1
  have Y1 : YB b M r.2 := YB.yx hb p1
  refine y_word hG E1.2.1 p2 (k := 9) (by decide) kwB_at.1.2.2.2.2.2.2.1 (fun M2 x1 x2 => ?_)
  generalize hw : tWord bs 9 r2.2 = s3 at *
  have E2 := x1.re E1
  have K2 := K1.yx x1
  have Y2 := Y1.trans (YB.yx hb x1)
  show wp ((f_X12_signed Γ M2 102 (J (99 : Nat))).bind _) _
  rw [wp_bind]
  have qs' := y_signed (m := 99) hG E2.2.1 x2 (by decide)
  refine qs'.mono (fun n y => ?_)
  clear qs'
  obtain ⟨y1, y2, y3⟩ := y
  generalize hl : tSNum bs 99 s3 = l2 at *
  have E3 := y1.re E2
  have K3 := K2.yx y1
  have Y3 := Y2.trans (YB.yx hb y1)
  show wp ((f_X12_isGood Γ n.2 102).bind _) _
  rw [wp_bind, y_good hG y2, wp_some]
  by_cases g : l2.2.2.1 = 0
  · have g3 : s3.2.1 = 0 := (tSNum_good (bs := bs) (m := 99) (s := s3) (by rw [hl]; exact g)).1
    have gr : r2.2.2.1 = 0 := (tWord_good (bs := bs) (w := 9) (s := r2.2) (by rw [hw]; exact g3)).1
    have er := p3 gr
    have en := y3 g
    have lr : r2.1 < 8 := by
      have q := tTold_lt (bs := bs) (H := bHn B) (s := sa)
      rw [hr2] at q
      omega
    clear g3 gr
    rw [if_pos g, wp_ite_f (by decide), er, J_add, show ((64 * b + 8 * a0 : Nat) : Int) + r2.1 = ((64 * b + 8 * a0 + r2.1 : Nat) : Int) by omega, MRf22 E3.2.1, MRf26 E3.2.1, MRf13 E3.2.1]
    have k16 := GKk116 hG
    have l16 := GKl116 hG
    have k20 := GKk120 hG
    have l20 := GKl120 hG
    rw [wp_ck_t k16, wp_ck_t (by rw [J_toInt (by omega) (by omega), l16]; omega), J_clamp (by omega) (by omega), Int.toNat_natCast]
    have e35 := E3.2.2.2
    have i1 : (rhsi n.2 116 (64 * b + 8 * a0 + r2.1) n.1).1 102 35 = J b := by rw [si_1, if_neg (by omega)]; exact e35
    simp only [i1]
    have ei : ((64 * J b) + (8 * J r2.1)) + J a0 = J ((64 * b + 8 * r2.1 + a0 : Nat) : Int) := by rw [show (64 : Int32) = J 64 from rfl, show (8 : Int32) = J 8 from rfl, J_mul, J_mul, J_add, J_add]; congr 1
    rw [ei, wp_ck_t (by rw [J_toInt (by omega) (by omega), l16]; omega), J_clamp (by omega) (by omega), Int.toNat_natCast, wp_ck_t k20, wp_ck_t (by rw [J_toInt (by omega) (by omega), l20]; omega)]
    have i2 : (rhsi (rhsi (rhsi n.2 116 (64 * b + 8 * a0 + r2.1) n.1) 116 (64 * b + 8 * r2.1 + a0) n.1) 120 (64 * b + 8 * a0 + r2.1) (vp_nar .boolean 1)).1 102 35 = J b := by rw [si_1, if_neg (by omega), si_1, if_neg (by omega), si_1, if_neg (by omega)]; exact e35
    simp only [i2]
    rw [ei, wp_ck_t (by rw [J_toInt (by omega) (by omega), l20]; omega), J_clamp (by omega) (by omega), Int.toNat_natCast, wp_ck_t (GKk107 hG)]
    have i3 : (rhsi (rhsi (rhsi (rhsi n.2 116 (64 * b + 8 * a0 + r2.1) n.1) 116 (64 * b + 8 * r2.1 + a0) n.1) 120 (64 * b + 8 * a0 + r2.1) (vp_nar .boolean 1)) 120 (64 * b + 8 * r2.1 + a0) (vp_nar .boolean 1)).1 102 35 = J b := by rw [si_1, if_neg (by omega)]; exact i2
    have i4 : (rhsi (rhsi (rhsi (rhsi n.2 116 (64 * b + 8 * a0 + r2.1) n.1) 116 (64 * b + 8 * r2.1 + a0) n.1) 120 (64 * b + 8 * a0 + r2.1) (vp_nar .boolean 1)) 120 (64 * b + 8 * r2.1 + a0) (vp_nar .boolean 1)).1 107 b = J (bB B).length := by rw [si_1, if_neg (by omega), si_1, if_neg (by omega), si_1, if_neg (by omega), si_1, if_neg (by omega)]; exact K3.1.2.2.1
    simp only [i3]
    rw [wp_ck_t (by rw [J_toInt (by omega) (by omega), GKl107 hG]; omega), J_clamp (by omega) (by omega), Int.toNat_natCast, i4, show J (bB B).length + 1 = J ((bB B).length + 1 : Nat) by rw [show (1 : Int32) = J 1 from rfl, J_add, J_suc], wp_some, show vp_nar .boolean 1 = (1 : Int32) from by decide]
    have hd1 : (64 * b + 8 * a0 + r2.1) / 64 ≠ 1 - b := by omega
    have hd2 : (64 * b + 8 * r2.1 + a0) / 64 ≠ 1 - b := by omega
    have Y4 := ((((Y3.si (r := 116) (by decide) (by decide) hd1 n.1).si (r := 116) (by decide) (by decide) hd2 n.1).si (r := 120) (by decide) (by decide) hd1 1).si (r := 120) (by decide) (by decide) hd2 1).si (r := 107) (j := b) (by decide) (by decide) (by show b / 1 ≠ 1 - b; omega) (J ((bB B).length + 1 : Nat))
    have Q4 : QS (rhsi (rhsi (rhsi (rhsi (rhsi n.2 116 (64 * b + 8 * a0 + r2.1) n.1) 116 (64 * b + 8 * r2.1 + a0) n.1) 120 (64 * b + 8 * a0 + r2.1) 1) 120 (64 * b + 8 * r2.1 + a0) 1) 107 b (J ((bB B).length + 1 : Nat))) bs l2.2 := ((((y2.c (by decide) (by decide) _ _).c (by decide) (by decide) _ _).c (by decide) (by decide) _ _).c (by decide) (by decide) _ _).c (by decide) (by decide) _ _
    refine ⟨Y4, l2.2, Q4, hx1, fun gx => ?_⟩
    obtain ⟨h1, h2, h3, h4, h5⟩ := hx2 gx
    clear gx
    refine ⟨h1, ?_⟩
    rw [h2]
    obtain ⟨⟨k0, k1, k2, k3, k4⟩, ⟨kn1, kn2⟩, kl, ks, kw, kc, kf, k111⟩ := K3
    clear Y4 Q4 i1 i2 i3 i4
    have o : ∀ r, r ≠ 107 → r ≠ 116 → r ≠ 120 → (rhsi (rhsi (rhsi (rhsi (rhsi n.2 116 (64 * b + 8 * a0 + r2.1) n.1) 116 (64 * b + 8 * r2.1 + a0) n.1) 120 (64 * b + 8 * a0 + r2.1) 1) 120 (64 * b + 8 * r2.1 + a0) 1) 107 b (J ((bB B).length + 1 : Nat))).1 r = n.2.1 r := fun r h1 h2 h3 => by
      funext k; rw [si_1, if_neg (fun q => h1 q.1), si_1, if_neg (fun q => h3 q.1), si_1, if_neg (fun q => h3 q.1), si_1, if_neg (fun q => h2 q.1), si_1, if_neg (fun q => h2 q.1)]
    have o16 : ∀ k, (rhsi (rhsi (rhsi (rhsi (rhsi n.2 116 (64 * b + 8 * a0 + r2.1) n.1) 116 (64 * b + 8 * r2.1 + a0) n.1) 120 (64 * b + 8 * a0 + r2.1) 1) 120 (64 * b + 8 * r2.1 + a0) 1) 107 b (J ((bB B).length + 1 : Nat))).1 116 k = if k = 64 * b + 8 * r2.1 + a0 ∨ k = 64 * b + 8 * a0 + r2.1 then n.1 else n.2.1 116 k := fun k => by
      rw [si_1, if_neg (by omega), si_1, if_neg (by omega), si_1, if_neg (by omega), si_1]
      by_cases c : k = 64 * b + 8 * r2.1 + a0
      · rw [if_pos ⟨rfl, c⟩, if_pos (Or.inl c)]
      · rw [if_neg (fun q => c q.2), si_1]
        by_cases c2 : k = 64 * b + 8 * a0 + r2.1
        · rw [if_pos ⟨rfl, c2⟩, if_pos (Or.inr c2)]
        · rw [if_neg (fun q => c2 q.2), if_neg (fun q => q.elim c c2)]
    have o20 : ∀ k, (rhsi (rhsi (rhsi (rhsi (rhsi n.2 116 (64 * b + 8 * a0 + r2.1) n.1) 116 (64 * b + 8 * r2.1 + a0) n.1) 120 (64 * b + 8 * a0 + r2.1) 1) 120 (64 * b + 8 * r2.1 + a0) 1) 107 b (J ((bB B).length + 1 : Nat))).1 120 k = if k = 64 * b + 8 * r2.1 + a0 ∨ k = 64 * b + 8 * a0 + r2.1 then 1 else n.2.1 120 k := fun k => by
      rw [si_1, if_neg (by omega), si_1]
      by_cases c : k = 64 * b + 8 * r2.1 + a0
      · rw [if_pos ⟨rfl, c⟩, if_pos (Or.inl c)]
      · rw [if_neg (fun q => c q.2), si_1]
        by_cases c2 : k = 64 * b + 8 * a0 + r2.1
        · rw [if_pos ⟨rfl, c2⟩, if_pos (Or.inr c2)]
        · rw [if_neg (fun q => c2 q.2), if_neg (fun q => q.elim c c2), si_1, if_neg (by omega), si_1, if_neg (by omega)]
    have o107 : (rhsi (rhsi (rhsi (rhsi (rhsi n.2 116 (64 * b + 8 * a0 + r2.1) n.1) 116 (64 * b + 8 * r2.1 + a0) n.1) 120 (64 * b + 8 * a0 + r2.1) 1) 120 (64 * b + 8 * r2.1 + a0) 1) 107 b (J ((bB B).length + 1 : Nat))).1 107 b = J ((bB B).length + 1 : Nat) := by rw [si_1, if_pos ⟨rfl, rfl⟩]
    have ol : (rhsi (rhsi (rhsi (rhsi (rhsi n.2 116 (64 * b + 8 * a0 + r2.1) n.1) 116 (64 * b + 8 * r2.1 + a0) n.1) 120 (64 * b + 8 * a0 + r2.1) 1) 120 (64 * b + 8 * r2.1 + a0) 1) 107 b (J ((bB B).length + 1 : Nat))).2.1 = n.2.2.1 := rfl
    generalize rhsi (rhsi (rhsi (rhsi (rhsi n.2 116 (64 * b + 8 * a0 + r2.1) n.1) 116 (64 * b + 8 * r2.1 + a0) n.1) 120 (64 * b + 8 * a0 + r2.1) 1) 120 (64 * b + 8 * r2.1 + a0) 1) 107 b (J ((bB B).length + 1 : Nat)) = M6 at *
    refine ⟨⟨by rw [o 105 (by decide) (by decide) (by decide)]; exact k0, by rw [o 106 (by decide) (by decide) (by decide)]; exact k1, ?_, by rw [o 109 (by decide) (by decide) (by decide)]; exact k3, by rw [o 110 (by decide) (by decide) (by decide)]; exact k4⟩, ⟨kn1.eq (by rw [ol]), kn2.eq (by rw [ol])⟩, ?_, ?_, fun x y hx hy => ?_, ?_, ?_, ?_⟩
    · show M6.1 107 b = J ((bB B ++ [(a0, r2.1, l2.1)]).length : Nat)
      rw [o107, List.length_append, List.length_singleton]
    · rw [o 112 (by decide) (by decide) (by decide)]; exact kl
    · rw [o 113 (by decide) (by decide) (by decide), o 114 (by decide) (by decide) (by decide), o 115 (by decide) (by decide) (by decide)]; exact ks
    · have e := bW_add B (a0, r2.1, l2.1) x y h4
      rw [e.1, e.2, o16, o20]
      by_cases c : isPr x y (a0, r2.1, l2.1) = true
      · rw [if_pos c, if_pos c]
        unfold isPr at c; rw [decide_eq_true_eq] at c
        have c : (a0 = x ∧ r2.1 = y) ∨ (a0 = y ∧ r2.1 = x) := c
        rw [if_pos (by omega), if_pos (by omega)]
        exact ⟨en, rfl⟩
      · rw [if_neg c, if_neg c]
        unfold isPr at c; rw [decide_eq_true_eq] at c
        have c : ¬ ((a0 = x ∧ r2.1 = y) ∨ (a0 = y ∧ r2.1 = x)) := c
        rw [if_neg (by omega), if_neg (by omega)]
        exact kw x y hx hy
    · exact kc.eq (by rw [o 102 (by decide) (by decide) (by decide)]) (by rw [o 108 (by decide) (by decide) (by decide)]) (o 123 (by decide) (by decide) (by decide)) (o 124 (by decide) (by decide) (by decide))
    · rw [o 117 (by decide) (by decide) (by decide), o 118 (by decide) (by decide) (by decide), o 119 (by decide) (by decide) (by decide)]; exact kf
    · rw [o 111 (by decide) (by decide) (by decide)]; exact k111
  · rw [if_neg g, wp_ite_t rfl, wp_some]
    refine ⟨Y3, l2.2, y2, hx1, fun gx => ?_⟩
    rw [← hx1] at gx
    exact absurd (tSign_good gx).1 g
theorem y_readBeside : RLn Γ b bs (f_X12_readBeside) (lBeside bs) (fun B => 20 ≤ (bB B).length) := by
  intro M s B hE hQ hg hK hP hc
  obtain ⟨hG, hRm, hb, h35⟩ := id hE
  obtain ⟨i, t1, t2, t3⟩ := id hQ.1
  have hr := hre_rng bs (bHn B) i
  have lH : (bHn B).length = (bH B).length := List.length_map _
  have h8 := hP.1.2.1
  have eA : advU bs (20 ≤ (bB B).length) s = adv bs s := by unfold advU; rw [if_neg hc]
  have hbg := bs_good (bs := bs) (s := s) (B := B)
  have eL : lBeside bs (s, B) = (tSign bs 59 (tSNum bs 99 (tWord bs 9 (if (tTold bs (bHn B) (adv bs s)).1 = (tTold bs (bHn B) (tTold bs (bHn B) (adv bs s)).2).1 ∨ bIs B (tTold bs (bHn B) (adv bs s)).1 (tTold bs (bHn B) (tTold bs (bHn B) (adv bs s)).2).1 = true then bla 3 (qp bs (tTold bs (bHn B) (adv bs s)).2.1) (tTold bs (bHn B) (tTold bs (bHn B) (adv bs s)).2).2 else (tTold bs (bHn B) (tTold bs (bHn B) (adv bs s)).2).2))).2, (bR B, bH B, bB B ++ [((tTold bs (bHn B) (adv bs s)).1, (tTold bs (bHn B) (tTold bs (bHn B) (adv bs s)).2).1, (tSNum bs 99 (tWord bs 9 (if (tTold bs (bHn B) (adv bs s)).1 = (tTold bs (bHn B) (tTold bs (bHn B) (adv bs s)).2).1 ∨ bIs B (tTold bs (bHn B) (adv bs s)).1 (tTold bs (bHn B) (tTold bs (bHn B) (adv bs s)).2).1 = true then bla 3 (qp bs (tTold bs (bHn B) (adv bs s)).2.1) (tTold bs (bHn B) (tTold bs (bHn B) (adv bs s)).2).2 else (tTold bs (bHn B) (tTold bs (bHn B) (adv bs s)).2).2))).1)], B.2.2.2)) := by
    unfold lBeside; simp only [eA]
  generalize lBeside bs (s, B) = xx at *
  rw [f_X12_readBeside, wp_ck_t (GKk102 hG), wp_bind, y_houseHere (hE.ev hK hP) t1, wp_some, wp_bind]
  have qk := y_known (H := bHn B) hG hRm hQ (by omega) (z := hre bs (bHn B) i) (by omega) (fun g => by rw [t3 g])
  refine qk.mono (fun r p => ?_)
  clear qk
  obtain ⟨p1, p2, p3, p4⟩ := p
  have la := tTold_lt (bs := bs) (H := bHn B) (s := adv bs s)
  generalize tTold bs (bHn B) (adv bs s) = a2 at *
  have E1 := p1.re hE
  have K1 := hK.yx p1
  have Y1 : YB b M r.2 := YB.yx hb p1
  obtain ⟨a0, ha0, era, hag⟩ : ∃ a0 : Nat, a0 < 8 ∧ r.1 = J a0 ∧ (a2.2.2.1 = 0 → a0 = a2.1) := by
    by_cases g : a2.2.2.1 = 0
    · exact ⟨a2.1, by omega, p3 g, fun _ => rfl⟩
    · rcases p4 with p4 | ⟨p4, p5⟩
      · exact ⟨0, by omega, p4, fun q => absurd q g⟩
      · exact ⟨(hre bs (bHn B) i).toNat, by omega, by rw [Int.toNat_of_nonneg p5]; exact p4, fun q => absurd q g⟩
  obtain ⟨i2, u1, u2, u3⟩ := id p2.1
  have hr2 := hre_rng bs (bHn B) i2
  have e6 : (64 * J b) + (8 * J a0) = J ((64 * b + 8 * a0 : Nat) : Int) := by rw [show (64 : Int32) = J 64 from rfl, show (8 : Int32) = J 8 from rfl, J_mul, J_mul, J_add]; congr 1
  rw [wp_bind, y_houseHere (E1.ev K1 hP) u1, wp_some, era, E1.2.2.2, e6]
  show wp ((f_X12_isGood Γ r.2 102).bind _) _
  rw [wp_bind, y_good hG p2, wp_some]
  have hbm : ∀ (sa : Ps), sa.2.1 ≠ 0 → (tSign bs 59 (tSNum bs 99 (tWord bs 9 (tTold bs (bHn B) sa).2)).2).2 = sa.2 := fun sa h => by
    rw [tTold_bad h, tWord_bad h, tSNum_bad h, tSign_bad h]
  /- no fault found here -/
  have go : ¬ (a2.1 = (tTold bs (bHn B) a2.2).1 ∨ bIs B a2.1 (tTold bs (bHn B) a2.2).1 = true) ∨ (tTold bs (bHn B) a2.2).2.2.1 ≠ 0 → wp (f_X12_readBeside_63 Γ r.2 102 (J a0) (J (hre bs (bHn B) i2)) (J (64 * b + 8 * a0 : Nat))) (fun M' => YB b M M' ∧ ∃ s5, QS M' bs s5 ∧ (tSign bs 59 s5).2 = xx.1.2 ∧ (xx.1.2.1 = 0 → tSign bs 59 s5 = xx.1 ∧ RKB M' b xx.2)) := fun hno => by
    have e0 : (if a2.1 = (tTold bs (bHn B) a2.2).1 ∨ bIs B a2.1 (tTold bs (bHn B) a2.2).1 = true then bla 3 (qp bs a2.2.1) (tTold bs (bHn B) a2.2).2 else (tTold bs (bHn B) a2.2).2) = (tTold bs (bHn B) a2.2).2 := by
      rcases hno with hno | hno
      · exact if_neg hno
      · split
        · exact bla_st hno
        · rfl
    rw [e0] at eL
    have qb := y_b63 (xx := xx) E1 K1 hP p2 ha0 (z := hre bs (bHn B) i2) (by omega) (fun g => by rw [u3 g]) (by rw [eL]) (fun gx => by
      obtain ⟨h20, a', b', w', e', ha, hb', hab, hni, h1, h2⟩ := hbg gx
      rw [eL] at gx
      have g1 := (tTold_good (tWord_good (tSNum_good (tSign_good gx).1).1).1).1
      have hae := hag g1
      rw [eL] at e'
      have e3 : (a2.1, (tTold bs (bHn B) a2.2).1, (tSNum bs 99 (tWord bs 9 (tTold bs (bHn B) a2.2).2)).1) = (a', b', w') := by
        have := congrArg (fun q : Bd => q.2.2.1) e'
        have this : bB B ++ [(a2.1, (tTold bs (bHn B) a2.2).1, (tSNum bs 99 (tWord bs 9 (tTold bs (bHn B) a2.2).2)).1)] = bB B ++ [(a', b', w')] := this
        exact List.singleton_inj.mp (List.append_cancel_left this)
      have ea : a2.1 = a' := congrArg (fun q => q.1) e3
      have eb : (tTold bs (bHn B) a2.2).1 = b' := congrArg (fun q => q.2.1) e3
      refine ⟨by rw [eL], by rw [eL, hae], by rw [eb]; exact Nat.lt_of_lt_of_le hb' h8, by rw [hae, ea, eb]; exact hni, h20⟩)
    exact qb.mono (fun M' q => ⟨Y1.trans q.1, q.2⟩)
  /- told already -/
  have bad : a2.2.2.1 = 0 → (tTold bs (bHn B) a2.2).2.2 = a2.2.2 → (a2.1 = (tTold bs (bHn B) a2.2).1 ∨ bIs B a2.1 (tTold bs (bHn B) a2.2).1 = true) → wp (f_X12_readBeside_54 (f_X12_readBeside_63 Γ) Γ r.2 102 (J a0) (J (hre bs (bHn B) i2)) (J (64 * b + 8 * a0 : Nat))) (fun M' => YB b M M' ∧ ∃ s5, QS M' bs s5 ∧ (tSign bs 59 s5).2 = xx.1.2 ∧ (xx.1.2.1 = 0 → tSign bs 59 s5 = xx.1 ∧ RKB M' b xx.2)) := fun g gb hyes => by
    have hb4 := bla_bad 3 (qp bs a2.2.1) (by decide) a2.2
    have hb5 := bla_bad 3 (qp bs a2.2.1) (by decide) (tTold bs (bHn B) a2.2).2
    rw [if_pos hyes] at eL
    have e1 : xx.1.2 = (bla 3 (qp bs a2.2.1) a2.2).2 := by
      rw [eL, tWord_bad hb5, tSNum_bad hb5, tSign_bad hb5]
      have gb1 : (tTold bs (bHn B) a2.2).2.2.1 = 0 := by rw [gb]; exact g
      unfold bla
      rw [if_pos g, if_pos gb1]
    have ei := u3 g
    rw [ei] at u1
    rw [f_X12_readBeside_54, wp_ck_t (GKk102 hG), u1.2.1]
    show wp ((f_X12_fails Γ r.2 102 (J (3 : Nat)) (J (qp bs a2.2.1))).bind _) _
    rw [wp_bind]
    refine (y_fails hG p2 (k := 3) (by decide)).mono (fun M1 z => ?_)
    have qb := y_b63 (xx := xx) (z.1.re E1) (K1.yx z.1) hP z.2 ha0 (z := hre bs (bHn B) i2) (by omega) (fun q => absurd q hb4) (by rw [hbm _ hb4, e1]) (fun gx => by rw [e1] at gx; exact absurd gx hb4)
    exact qb.mono (fun M' q => ⟨Y1.trans ((YB.yx hb z.1).trans q.1), q.2⟩)
  by_cases g : a2.2.2.1 = 0
  · have ei := u3 g
    have hae := hag g
    rw [if_pos g, wp_ite_f (by decide)]
    by_cases c : hre bs (bHn B) i2 < 0
    · rw [wp_ite_t (by rw [y_hre0 (by omega)]; exact c)]
      refine go (Or.inr (fun q => ?_))
      have hh := tTold_good q
      rw [ei] at c
      unfold hre at c
      rw [if_pos ⟨hh.2.1, hh.2.2.1⟩] at c
      omega
    · have hin : qk bs a2.2.1 = 2 ∧ qw bs a2.2.1 ∈ bHn B := by
        rw [ei] at c
        unfold hre at c
        apply Classical.byContradiction
        intro q
        rw [if_neg q] at c; omega
      have eT : tTold bs (bHn B) a2.2 = ((bHn B).idxOf (qw bs a2.2.1), adv bs a2.2) := by
        unfold tTold
        rw [if_neg (by have := hin.1; omega), if_pos hin.2]
      have eh : hre bs (bHn B) i2 = ((tTold bs (bHn B) a2.2).1 : Nat) := by
        rw [ei, eT]; unfold hre; rw [if_pos hin]
      have gb : (tTold bs (bHn B) a2.2).2.2 = a2.2.2 := by rw [eT]; rfl
      rw [wp_ite_f (by rw [y_hre0 (by omega)]; exact c)]
      generalize tTold bs (bHn B) a2.2 = b2 at *
      by_cases c2 : a2.1 = b2.1
      · rw [wp_ite_t (by rw [eh, hae, c2])]
        exact bad g gb (Or.inl c2)
      · rw [wp_ite_f (by rw [eh, J_eq (by omega) (by omega) (by omega) (by omega)]; omega)]
        have hib := (K1.2.2.2.2.1 a0 b2.1 ha0 (by omega)).2
        rw [eh, MRf26 E1.2.1, wp_ck_t (GKk120 hG), J_add, show ((64 * b + 8 * a0 : Nat) : Int) + b2.1 = ((64 * b + 8 * a0 + b2.1 : Nat) : Int) by omega, wp_ck_t (by rw [J_toInt (by omega) (by omega), GKl120 hG]; omega), J_clamp (by omega) (by omega), Int.toNat_natCast, hib, hae]
        rw [eh, hae] at bad go
        by_cases c3 : bIs B a2.1 b2.1 = true
        · rw [wp_ite_f (by rw [c3]; decide)]
          exact bad g gb (Or.inr c3)
        · have c3' : bIs B a2.1 b2.1 = false := by simpa using c3
          rw [wp_ite_t (by rw [c3']; rfl)]
          exact go (Or.inl (fun q => q.elim c2 c3))
  · rw [if_neg g, wp_ite_t rfl]
    refine go (Or.inr (fun q => g (tTold_good q).1))
end
