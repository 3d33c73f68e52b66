section
variable {Γ : rhG} {t : Nat} {H : List (List Nat)} {bs : List Int32}
theorem CE.unit {M : rhM} {cd : List (Nat × Nat)} {un : Nat} (hE : CE M t (cd, un)) : CE (rhsi M (t + 6) 0 (J ((un + 1 : Nat) : Int))) t (cd, un + 1) := by
  obtain ⟨e0, e1, e2, e3⟩ := hE
  have i7 : (rhsi M (t + 6) 0 (J ((un + 1 : Nat) : Int))).1 (t + 7) = M.1 (t + 7) := by funext j; rw [si_1, if_neg (by omega)]
  have i8 : (rhsi M (t + 6) 0 (J ((un + 1 : Nat) : Int))).1 (t + 8) = M.1 (t + 8) := by funext j; rw [si_1, if_neg (by omega)]
  exact ⟨by rw [si_1, if_pos ⟨rfl, rfl⟩], by rw [si_1, if_neg (by omega)]; exact e1, by rw [i7]; exact e2, by rw [i8]; exact e3⟩
theorem c_readUnit (g1 g2 g3 g4 g5 g6 g7 : rhG → rhM → Nat → Int32 → Option rhM) {d : Nat} (hd : d ≤ 7) {r : Option (Es → Es)} (hr0 : r = none → d = 7) (hr1 : ∀ e, r = some e → d < 7 ∧ RLw Γ t H bs g2 (d + 1) e) : RLw Γ t H bs (fun Γ M v0 v1 => f_X4_readUnit g1 g2 g3 g4 g5 g6 g7 Γ M v0 v1) d (pU bs H r) := by
  intro M s hL hS hE hP
  show wp (f_X4_readUnit g1 g2 g3 g4 g5 g6 g7 Γ M 3 (J d)) _
  obtain ⟨hG, hT, ht, ⟨r11, r10, r4⟩, hN, hH, hM⟩ := id hL
  have s6 := hT.2.2.2.2.2.2.1
  have hk5 : qk bs s.1.1 ≤ 5 := by unfold qk; (repeat' split) <;> omega
  have hx := qx_rng bs s.1.1
  have hz := qs_rng hS.1.1.2.2.2.2.2.2 s.1.1
  have hle := hS.2.2.2.2.2
  have hu40 : s.2.2 ≤ 40 := hP.1
  have e0 : M.1 (t + 6) 0 = J s.2.2 := hE.1
  have rf : pU bs H r s = eRfu bs s → wp (f_X4_readUnit_201 g1 g2 g3 g4 g5 g6 g7 Γ M 3) (fun M' => LX t M M' ∧ CS M' bs (pU bs H r s).1 ∧ CE M' t (pU bs H r s).2) ∧ wp (f_X4_readUnit_19 g1 g2 g3 g4 g5 g6 g7 Γ M 3) (fun M' => LX t M M' ∧ CS M' bs (pU bs H r s).1 ∧ CE M' t (pU bs H r s).2) := fun e => by
    rw [e, f_X4_readUnit_201, wp_ck_t (GKk3 hG), wp_bind, f_X4_readUnit_19, wp_ck_t (GKk3 hG), wp_bind]
    have hh := (c_refuse hG hS).mono (Q := fun r => wp (some r) (fun M' => LX t M M' ∧ CS M' bs (eRfu bs s).1 ∧ CE M' t (eRfu bs s).2)) (fun M' z => (wp_some _ _).mpr ⟨LX.cx z.1, z.2, hE.cx ht z.1⟩)
    exact ⟨hh, hh⟩
  rw [f_X4_readUnit, wp_ck_t (GKk3 hG), hS.2.2.2.1]
  by_cases c : s.1.2.1 = 0
  · rw [wp_ite_t (by rw [c]; rfl), r11, wp_ck_t s6, e0]
    by_cases c1 : s.2.2 < 40
    · have c0 : ¬ (s.1.2.1 ≠ 0 ∨ 40 ≤ s.2.2) := by omega
      have hP' := hP.2 c
      rw [wp_ite_t (by rw [show (40 : Int32) = J 40 from rfl, J_lt (by omega) (by omega) (by omega) (by omega)]; omega), hS.2.2.1, wp_ck_t (GKk4 hG), hS.1.2.2.2.1]
      by_cases c2 : qk bs s.1.1 = 4
      · rw [wp_ite_t (by rw [c2]; rfl), show pU bs H r s = eAdv bs (au 48 (qv bs s.1.1) s) by unfold pU; rw [if_neg c0, if_pos c2], hS.1.2.2.2.2.2.2.2 c2, wp_bind]
        refine (c_addUnit hT hE (by show s.2.1.length < 512; omega) 48 (qv bs s.1.1)).mono (fun M1 z => ?_)
        have S1 := hS.e ht z.1
        rw [S1.2.2.1, wp_ck_t (GKk4 hG), wp_bind]
        exact (c_adv hG S1).mono (fun M2 y => (wp_some _ _).mpr ⟨(LX.e ht z.1).trans (LX.cx y.1), y.2, z.2.cx ht y.1⟩)
      rw [wp_ite_f (by rw [show (4 : Int32) = J 4 from rfl, J_eq (by omega) (by omega) (by omega) (by omega)]; omega), hS.1.2.2.2.2.1]
      by_cases c3 : qx bs s.1.1 = 17
      · rw [wp_ite_t (by rw [c3]; rfl), show pU bs H r s = au 17 (tTold bs H (adv bs s.1)).1 ((tTold bs H (adv bs s.1)).2, s.2) by unfold pU; rw [if_neg c0, if_neg c2, if_pos c3], wp_bind]
        refine (c_adv hG hS).mono (fun M1 z => ?_)
        obtain ⟨-, hT1, -, ⟨q11, q10, q4⟩, hN1, -, hM1⟩ := hL.x (LX.cx z.1)
        rw [q10, wp_ck_t hT1.1, q4, hM1, wp_bind]
        refine (c_takeTold hG z.2 (GKk8 hG) (GKl8 hG) hH (by decide) hN1).mono (fun r y => ?_)
        rw [q11, wp_ck_t s6, wp_bind, y.1]
        refine (c_addUnit (hT1.fr y.2.1.1.1) ((hE.cx ht z.1).cx ht y.2.1) (by show s.2.1.length < 512; omega) 17 _).mono (fun M3 x => (wp_some _ _).mpr ⟨(LX.cx (z.1.trans y.2.1)).trans (LX.e ht x.1), y.2.2.e ht x.1, x.2⟩)
      rw [wp_ite_f (by rw [show (17 : Int32) = J 17 from rfl, J_eq (by omega) (by omega) (by omega) (by omega)]; exact c3), c_isGiven (by omega), wp_bind, wp_some]
      by_cases c4 : isGv (qx bs s.1.1) = true
      · have c6 : 6 ≤ qx bs s.1.1 := by unfold isGv at c4; rw [decide_eq_true_eq] at c4; omega
        have e6 : J (qx bs s.1.1) = J ((qx bs s.1.1).toNat : Int) := by rw [Int.toNat_of_nonneg (by omega)]
        rw [if_pos c4, wp_ite_f (by decide), show pU bs H r s = eAdv bs (au (qx bs s.1.1).toNat 0 s) by unfold pU; rw [if_neg c0, if_neg c2, if_neg c3, if_pos c4], e6, wp_bind]
        refine (c_addUnit hT hE (by show s.2.1.length < 512; omega) (qx bs s.1.1).toNat 0).mono (fun M1 z => ?_)
        have S1 := hS.e ht z.1
        rw [S1.2.2.1, wp_ck_t (GKk4 hG), wp_bind]
        exact (c_adv hG S1).mono (fun M2 y => (wp_some _ _).mpr ⟨(LX.e ht z.1).trans (LX.cx y.1), y.2, z.2.cx ht y.1⟩)
      rw [if_neg c4, wp_ite_t rfl, hS.1.2.2.2.2.2.1]
      by_cases c5 : qs bs s.1.1 = 40
      · rw [wp_ite_t (by rw [c5]; rfl)]
        cases hrr : r with
        | none =>
          rw [← hrr, wp_ite_f (by rw [hr0 hrr]; decide)]
          exact (rf (by unfold pU; rw [if_neg c0, if_neg c2, if_neg c3, if_neg c4, if_pos c5, hrr])).1
        | some e =>
          obtain ⟨d1, hf⟩ := hr1 e hrr
          rw [wp_ite_t (by rw [show (7 : Int32) = J 7 from rfl, J_lt (by omega) (by omega) (by omega) (by omega)]; omega), ← hrr, show pU bs H r s = (tSign bs 41 (e (eAdv bs (s.1, s.2.1, s.2.2 + 1))).1, (e (eAdv bs (s.1, s.2.1, s.2.2 + 1))).2) by unfold pU; rw [if_neg c0, if_neg c2, if_neg c3, if_neg c4, if_pos c5, hrr], show (1 : Int32) = J 1 from rfl, J_add, J_suc, J_add, J_suc]
          have F1 : Fr [t + 6, t + 7, t + 8] M (rhsi M (t + 6) 0 (J ((s.2.2 + 1 : Nat) : Int))) := (Fr.refl _ _).si (by simp) _ _
          have E1 : CE (rhsi M (t + 6) 0 (J ((s.2.2 + 1 : Nat) : Int))) t (s.2.1, s.2.2 + 1) := CE.unit hE
          show wp ((f_X8_advance Γ (rhsi M (t + 6) 0 (J ((s.2.2 + 1 : Nat) : Int))) 4).bind _) _
          rw [wp_bind]
          refine (c_adv hG (hS.e ht F1)).mono (fun M1 z => ?_)
          have P1 : PE (eAdv bs (s.1, s.2.1, s.2.2 + 1)) := ⟨by show s.2.2 + 1 ≤ 40; omega, fun _ => by show s.2.1.length + 9 * (40 - (s.2.2 + 1)) ≤ 400; omega⟩
          rw [wp_bind]
          refine (hf M1 (eAdv bs (s.1, s.2.1, s.2.2 + 1)) ((hL.x (LX.e ht F1)).x (LX.cx z.1)) z.2 (E1.cx ht z.1) P1).mono (fun M2 y => ?_)
          rw [wp_bind]
          refine (c_takeSign hG y.2.1 (w := 41) (by decide)).mono (fun M3 x => (wp_some _ _).mpr ⟨(LX.e ht F1).trans ((LX.cx z.1).trans (y.1.trans (LX.cx x.1))), x.2, y.2.2.cx ht x.1⟩)
      · rw [wp_ite_f (by rw [show (40 : Int32) = J 40 from rfl, J_eq (by omega) (by omega) (by omega) (by omega)]; exact c5)]
        exact (rf (by unfold pU; rw [if_neg c0, if_neg c2, if_neg c3, if_neg c4, if_neg c5])).1
    · rw [wp_ite_f (by rw [show (40 : Int32) = J 40 from rfl, J_lt (by omega) (by omega) (by omega) (by omega)]; omega)]
      exact (rf (by unfold pU; rw [if_pos (by omega)])).2
  · rw [wp_ite_f (by rw [show (0 : Int32) = J 0 from rfl, J_eq (by omega) (by omega) (by omega) (by omega)]; omega)]
    exact (rf (by unfold pU; rw [if_pos (by omega)])).2
theorem c_oneC (g1 g2 g3 g4 g5 g6 g7 : rhG → rhM → Nat → Int32 → Option rhM) {d : Nat} {u : Es → Es} (hf : RLw Γ t H bs g5 d (pS bs u)) (hq : LQ (pS bs u)) {M : rhM} {s : Es} (hL : LE Γ M t H) (hS : CS M bs s.1) (hE : CE M t s.2) (hP : PE s) (hn : qx bs s.1.1 ≠ 12) : wp (f_X4_readOne g1 g2 g3 g4 g5 g6 g7 Γ M 3 (J d)) (fun M' => LX t M M' ∧ CS M' bs (pC bs u s).1 ∧ CE M' t (pC bs u s).2) := by
  have hG := hL.1
  have hx := qx_rng bs s.1.1
  rw [f_X4_readOne, wp_ck_t (GKk3 hG), hS.2.2.1, wp_ck_t (GKk4 hG), hS.1.2.2.2.2.1, wp_ite_f (by rw [show (12 : Int32) = J 12 from rfl, J_eq (by omega) (by omega) (by omega) (by omega)]; exact hn), wp_bind]
  refine (hf M s hL hS hE hP).mono (fun M1 z => ?_)
  have hz := qs_rng hS.1.1.2.2.2.2.2.2 (pS bs u s).1.1
  have L1 := hL.x z.1
  have P1 := hq.1 s hP
  unfold pC
  have hle := z.2.1.2.2.2.2.2
  generalize pS bs u s = s1 at *
  rw [z.2.1.2.2.1, wp_ck_t (GKk4 hG), z.2.1.2.2.2.1, z.2.1.1.2.2.2.2.2.1]
  show wp (if J s1.1.2.1 = 0 then _ else _) _
  by_cases c : s1.1.2.1 = 0
  · rw [wp_ite_t (by rw [c]; rfl), if_pos c]
    have go : ∀ k : Nat, qs bs s1.1.1 = k → oC bs s1.1.1 = some k → wp (f_X4_readOne_56 g1 g2 g3 g4 g5 g6 g7 Γ M1 3 (J d) (J (qs bs s1.1.1))) (fun M' => LX t M M' ∧ CS M' bs (match oC bs s1.1.1 with | some c => ae c (pS bs u (eAdv bs s1)) | none => s1).1 ∧ CE M' t (match oC bs s1.1.1 with | some c => ae c (pS bs u (eAdv bs s1)) | none => s1).2) := fun k ek eo => by
      rw [eo, ek, f_X4_readOne_56, wp_ck_t (GKk3 hG), z.2.1.2.2.1, wp_ck_t (GKk4 hG)]
      exact c_stp hf hq L1 z.2.1 z.2.2 P1 c k (fun M' z1 z2 z3 z4 => (wp_some _ _).mpr ⟨z.1.trans z1, z2, z3⟩)
    by_cases c1 : qs bs s1.1.1 = 60
    · rw [wp_ite_t (by rw [c1]; rfl)]
      exact go 60 c1 (by unfold oC; rw [if_pos (Or.inl c1), c1]; rfl)
    rw [wp_ite_f (by rw [show (60 : Int32) = J 60 from rfl, J_eq (by omega) (by omega) (by omega) (by omega)]; exact c1)]
    by_cases c2 : qs bs s1.1.1 = 62
    · rw [wp_ite_t (by rw [c2]; rfl)]
      exact go 62 c2 (by unfold oC; rw [if_pos (Or.inr (Or.inl c2)), c2]; rfl)
    rw [wp_ite_f (by rw [show (62 : Int32) = J 62 from rfl, J_eq (by omega) (by omega) (by omega) (by omega)]; exact c2)]
    by_cases c3 : qs bs s1.1.1 = 61
    · rw [wp_ite_t (by rw [c3]; rfl)]
      exact go 61 c3 (by unfold oC; rw [if_pos (Or.inr (Or.inr c3)), c3]; rfl)
    · have eo : oC bs s1.1.1 = none := by unfold oC; rw [if_neg (fun w => w.elim c1 (fun v => v.elim c2 c3))]
      rw [wp_ite_f (by rw [show (61 : Int32) = J 61 from rfl, J_eq (by omega) (by omega) (by omega) (by omega)]; exact c3), eo]
      exact (wp_some _ _).mpr z
  · rw [wp_ite_f (by rw [show (0 : Int32) = J 0 from rfl, J_eq (by omega) (by omega) (by omega) (by omega)]; omega), if_neg c]
    exact (wp_some _ _).mpr z
theorem c_not0 (g1 g2 g3 g4 g5 g6 g7 : rhG → rhM → Nat → Int32 → Option rhM) : RLw Γ t H bs (fun Γ M v0 v1 => f_X4_readNot g1 g2 g3 g4 g5 g6 g7 Γ M v0 v1) 7 (eRfu bs) := by
  intro M s hL hS hE hP
  show wp (f_X4_readNot g1 g2 g3 g4 g5 g6 g7 Γ M 3 (J (7 : Nat))) _
  have hG := hL.1
  have ht := hL.2.2.1
  rw [f_X4_readNot, wp_ite_f (by decide), f_X4_readNot_12, wp_ck_t (GKk3 hG), wp_bind]
  refine (c_advU hG hS (c := True) (v := 1) rfl).mono (fun M1 z => ?_)
  have e : advU bs True s.1 = rfu bs s.1 := by unfold advU; rw [if_pos trivial]
  rw [e] at z
  have hb := rfu_bad (bs := bs) s.1
  have hle := z.2.2.2.2.2.2
  rw [wp_ck_t (GKk3 hG), z.2.2.2.2.1, wp_ite_f (by rw [show (0 : Int32) = J 0 from rfl, J_eq (by omega) (by omega) (by omega) (by omega)]; omega)]
  exact (wp_some _ _).mpr ⟨LX.cx z.1, z.2, hE.cx ht z.1⟩
theorem c_not1 (g1 g2 g3 g4 g5 g6 g7 : rhG → rhM → Nat → Int32 → Option rhM) {d k : Nat} (hd : d < 7) (ho : RLw Γ t H bs g4 (d + 1) (pO bs H k)) (hoq : LQ (pO bs H k)) : RLw Γ t H bs (fun Γ M v0 v1 => f_X4_readNot g1 g2 g3 g4 g5 g6 g7 Γ M v0 v1) d (fun s => if s.1.2.1 = 0 then ae 12 (pO bs H k (eAdv bs s)) else eAdv bs s) := by
  intro M s hL hS hE hP
  show wp (f_X4_readNot g1 g2 g3 g4 g5 g6 g7 Γ M 3 (J d)) _
  have hG := hL.1
  have ht := hL.2.2.1
  rw [f_X4_readNot, wp_ite_t (by rw [show (7 : Int32) = J 7 from rfl, J_lt (by omega) (by omega) (by omega) (by omega)]; omega), f_X4_readNot_12, wp_ck_t (GKk3 hG), wp_bind]
  refine (c_advU hG hS (c := False) (v := 0) rfl).mono (fun M1 z => ?_)
  have e : advU bs False s.1 = adv bs s.1 := by unfold advU; rw [if_neg (fun q => q)]
  rw [e] at z
  have e1 : (adv bs s.1).2 = s.1.2 := rfl
  have e2 : M1.1 3 0 = J s.1.2.1 := z.2.2.2.2.1
  have e3 : s.1.2.1 ≤ 6 := hS.2.2.2.2.2
  rw [wp_ck_t (GKk3 hG), e2]
  dsimp only
  by_cases g : s.1.2.1 = 0
  · rw [wp_ite_t (by rw [g]; rfl), if_pos g, wp_bind, show (1 : Int32) = J 1 from rfl, J_add, J_suc]
    have L1 := hL.x (LX.cx z.1)
    have P1 : PE (eAdv bs s) := hP
    refine (ho M1 (eAdv bs s) L1 z.2 (hE.cx ht z.1) P1).mono (fun M2 y => ?_)
    have L2 := L1.x y.1
    have hq2 := hoq.2 (eAdv bs s) P1 g
    rw [L2.2.2.2.1.1, wp_ck_t L2.2.1.2.2.2.2.2.2.1, wp_bind]
    refine (c_addStep L2.2.1 y.2.2 (by show (pO bs H k (eAdv bs s)).2.1.length < 512; omega) 12 0).mono (fun M3 x => (wp_some _ _).mpr ⟨(LX.cx z.1).trans (y.1.trans (LX.e ht x.1)), y.2.1.e ht x.1, x.2⟩)
  · rw [wp_ite_f (by rw [show (0 : Int32) = J 0 from rfl, J_eq (by omega) (by omega) (by omega) (by omega)]; omega), if_neg g]
    exact (wp_some _ _).mpr ⟨LX.cx z.1, z.2, hE.cx ht z.1⟩
theorem c_one0 (g1 g2 g3 g4 g5 g6 g7 : rhG → rhM → Nat → Int32 → Option rhM) (hn : RLw Γ t H bs g3 7 (eRfu bs)) (hf : RLw Γ t H bs g5 7 (pS bs (pU bs H none))) (hq : LQ (pS bs (pU bs H none))) : RLw Γ t H bs (fun Γ M v0 v1 => f_X4_readOne g1 g2 g3 g4 g5 g6 g7 Γ M v0 v1) 7 (pO bs H 0) := by
  intro M s hL hS hE hP
  show wp (f_X4_readOne g1 g2 g3 g4 g5 g6 g7 Γ M 3 (J (7 : Nat))) _
  rw [pO]
  by_cases c : qx bs s.1.1 = 12
  · have hG := hL.1
    rw [if_pos c, f_X4_readOne, wp_ck_t (GKk3 hG), hS.2.2.1, wp_ck_t (GKk4 hG), hS.1.2.2.2.2.1, wp_ite_t (by rw [c]; rfl), wp_bind]
    exact (hn M s hL hS hE hP).mono (fun M1 z => (wp_some _ _).mpr z)
  · rw [if_neg c]
    exact c_oneC g1 g2 g3 g4 g5 g6 g7 hf hq hL hS hE hP c
theorem c_one1 (g1 g2 g3 g4 g5 g6 g7 : rhG → rhM → Nat → Int32 → Option rhM) {d k : Nat} (hn : RLw Γ t H bs g3 d (fun s => if s.1.2.1 = 0 then ae 12 (pO bs H k (eAdv bs s)) else eAdv bs s)) (hf : RLw Γ t H bs g5 d (pS bs (pU bs H (some (pE bs (pO bs H k)))))) (hq : LQ (pS bs (pU bs H (some (pE bs (pO bs H k)))))) : RLw Γ t H bs (fun Γ M v0 v1 => f_X4_readOne g1 g2 g3 g4 g5 g6 g7 Γ M v0 v1) d (pO bs H (k + 1)) := by
  intro M s hL hS hE hP
  show wp (f_X4_readOne g1 g2 g3 g4 g5 g6 g7 Γ M 3 (J d)) _
  rw [pO]
  by_cases c : qx bs s.1.1 = 12
  · have hG := hL.1
    rw [if_pos c, f_X4_readOne, wp_ck_t (GKk3 hG), hS.2.2.1, wp_ck_t (GKk4 hG), hS.1.2.2.2.2.1, wp_ite_t (by rw [c]; rfl), wp_bind]
    exact (hn M s hL hS hE hP).mono (fun M1 z => (wp_some _ _).mpr z)
  · rw [if_neg c]
    exact c_oneC g1 g2 g3 g4 g5 g6 g7 hf hq hL hS hE hP c
/-- readSum on top of a unit, three levels down -/
theorem c_sumU {n d : Nat} (hd : d ≤ 7) {r : Option (Es → Es)} (hq : LQ (pU bs H r) ∧ LQ (pT bs (pU bs H r))) (hr0 : r = none → d = 7) (hr1 : ∀ e, r = some e → d < 7 ∧ RLw Γ t H bs (F_X4_readBoth n).2.1 (d + 1) e) : RLw Γ t H bs (F_X4_readBoth (n + 3)).2.2.2.2.1 d (pS bs (pU bs H r)) := by
  have h1 : RLw Γ t H bs (F_X4_readBoth (n + 1)).2.2.2.2.2.2 d (pU bs H r) := c_readUnit _ _ _ _ _ _ _ hd hr0 hr1
  have h2 : RLw Γ t H bs (F_X4_readBoth (n + 2)).2.2.2.2.2.1 d (pT bs (pU bs H r)) := c_readTerm _ _ _ _ _ _ _ h1 hq.1
  exact c_readSum _ _ _ _ _ _ _ h2 hq.2
theorem c_eitherO {n d : Nat} {p : Es → Es} (h : RLw Γ t H bs (F_X4_readBoth n).2.2.2.1 d p) (h1 : LQ p) (h2 : LQ (pB bs p)) : RLw Γ t H bs (F_X4_readBoth (n + 2)).2.1 d (pE bs p) := by
  have h3 : RLw Γ t H bs (F_X4_readBoth (n + 1)).1 d (pB bs p) := c_readBoth _ _ _ _ _ _ _ h h1
  exact c_readEither _ _ _ _ _ _ _ h3 h2
theorem c_one : ∀ (k : Nat), k ≤ 7 → ∀ n, RLw Γ t H bs (F_X4_readBoth (n + 6 * k + 4)).2.2.2.1 (7 - k) (pO bs H k)
  | 0, _, n => by
    have hq := LQ_U (bs := bs) (H := H) (r := none) (k := 0) (by decide) (fun e h => by cases h)
    have hn : RLw Γ t H bs (F_X4_readBoth (n + 2 + 1)).2.2.1 7 (eRfu bs) := c_not0 _ _ _ _ _ _ _
    exact c_one0 _ _ _ _ _ _ _ hn (c_sumU (n := n) (by decide) ⟨hq.1, hq.2.1⟩ (fun _ => rfl) (fun e h => by cases h)) hq.2.2
  | k + 1, hk, n => by
    have hq := LQ_U (bs := bs) (H := H) (r := some (pE bs (pO bs H k))) (k := k + 1) hk (fun e h => by cases h; exact ⟨k, by omega, rfl⟩)
    have ho := LQ_O (bs := bs) (H := H) (k := k) (by omega)
    have e1 : n + 6 * (k + 1) + 4 = (n + 6 * k + 4 + 2 + 3) + 1 := by omega
    have e2 : 7 - k = 7 - (k + 1) + 1 := by omega
    have i1 := c_one k (by omega) n
    have i2 := c_one k (by omega) (n + 4)
    rw [e2] at i1 i2
    rw [e1]
    have hn : RLw Γ t H bs (F_X4_readBoth (n + 4 + 6 * k + 4 + 1)).2.2.1 (7 - (k + 1)) (fun s => if s.1.2.1 = 0 then ae 12 (pO bs H k (eAdv bs s)) else eAdv bs s) := c_not1 _ _ _ _ _ _ _ (by omega) i2 ho.1
    rw [show n + 4 + 6 * k + 4 + 1 = n + 6 * k + 4 + 2 + 3 from by omega] at hn
    exact c_one1 _ _ _ _ _ _ _ hn (c_sumU (n := n + 6 * k + 4 + 2) (by omega) ⟨hq.1, hq.2.1⟩ (fun h => by cases h) (fun e h => by cases h; exact ⟨by omega, c_eitherO i1 ho.1 ho.2.1⟩)) hq.2.2
theorem c_either : RLw Γ t H bs (h_X4_readEither rhDP) 0 (pEk bs H 7) := by
  have ho := LQ_O (bs := bs) (H := H) (k := 7) (by omega)
  exact c_eitherO (n := 57) (c_one 7 (by decide) 11) ho.1 ho.2.1
end
