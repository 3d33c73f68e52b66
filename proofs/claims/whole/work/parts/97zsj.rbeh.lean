section
variable {Γ : rhG} {M M' : rhM} {b : Nat} {bs : List Int32} {s : Ps} {H : List (List Nat)}
theorem y_rankHere (hG : GK Γ) (hR : MR M) {i : Nat} (h : RT M bs i) (hi : i ≤ bs.length) : f_X12_rankHere Γ M 102 = some (J (rk bs i)) := by
  obtain ⟨⟨a0, a1, a2, a3, a4, a5, a6, a7, a8⟩, d0, d1, d2, d3, d4, d5, d6, d7, d8⟩ := kwB_at
  have cs : ∀ (c : Prop) [Decidable c] (K : Int32 → Option Int32), (some (if c then (1 : Int32) else 0)).bind K = if c then K 1 else K 0 := fun c _ K => by split <;> rfl
  have st := fun (c : Nat) (hc : 0 < c ∧ c < 128) => y_standsA hG hR h hi hc
  have s60 : f_X12_stands Γ M 102 (60 : Int32) = _ := st 60 (by decide)
  have s62 : f_X12_stands Γ M 102 (62 : Int32) = _ := st 62 (by decide)
  have s61 : f_X12_stands Γ M 102 (61 : Int32) = _ := st 61 (by decide)
  have s43 : f_X12_stands Γ M 102 (43 : Int32) = _ := st 43 (by decide)
  have s45 : f_X12_stands Γ M 102 (45 : Int32) = _ := st 45 (by decide)
  have s42 : f_X12_stands Γ M 102 (42 : Int32) = _ := st 42 (by decide)
  have s47 : f_X12_stands Γ M 102 (47 : Int32) = _ := st 47 (by decide)
  rw [f_X12_rankHere, rhck_t (GKk102 hG), y_isWordA hG h (k := 11) (by decide) d6, cs]
  unfold rk oC oS oT
  by_cases c : qx bs i = 11
  · rw [if_pos (by exact c), if_pos c]; rfl
  rw [if_neg (by exact c), if_neg c, if_pos rfl, y_isWordA hG h (k := 10) (by decide) d7, cs]
  by_cases c : qx bs i = 10
  · rw [if_pos (by exact c), if_pos c]; rfl
  rw [if_neg (by exact c), if_neg c, if_pos rfl, s60, cs]
  by_cases c1 : qs bs i = 60
  · rw [if_pos (by exact c1), if_pos (Or.inl c1)]; rfl
  rw [if_neg (by exact c1), if_pos rfl, s62, cs]
  by_cases c2 : qs bs i = 62
  · rw [if_pos (by exact c2), if_pos (Or.inr (Or.inl c2))]; rfl
  rw [if_neg (by exact c2), if_pos rfl, s61, cs]
  by_cases c3 : qs bs i = 61
  · rw [if_pos (by exact c3), if_pos (Or.inr (Or.inr c3))]; rfl
  rw [if_neg (by exact c3), if_pos rfl, s43, cs, if_neg (show ¬ (qs bs i = 60 ∨ qs bs i = 62 ∨ qs bs i = 61) from fun z => z.elim c1 (fun z => z.elim c2 c3))]
  by_cases c4 : qs bs i = 43
  · rw [if_pos (by exact c4), if_pos (show qs bs i = 43 ∨ qs bs i = 45 from Or.inl c4)]; rfl
  rw [if_neg (by exact c4), if_pos rfl, s45, cs]
  by_cases c5 : qs bs i = 45
  · rw [if_pos (by exact c5), if_pos (show qs bs i = 43 ∨ qs bs i = 45 from Or.inr c5)]; rfl
  rw [if_neg (by exact c5), if_pos rfl, s42, cs, if_neg (show ¬ (qs bs i = 43 ∨ qs bs i = 45) from fun z => z.elim c4 c5)]
  by_cases c6 : qs bs i = 42
  · rw [if_pos (by exact c6), if_pos (show qs bs i = 42 ∨ qs bs i = 47 from Or.inl c6)]; rfl
  rw [if_neg (by exact c6), if_pos rfl, s47, cs]
  by_cases c7 : qs bs i = 47
  · rw [if_pos (by exact c7), if_pos (show qs bs i = 42 ∨ qs bs i = 47 from Or.inr c7)]; rfl
  rw [if_neg (by exact c7), if_pos rfl, if_neg (show ¬ (qs bs i = 42 ∨ qs bs i = 47) from fun z => z.elim c6 c7)]; rfl
theorem opc_ok {i : Nat} (h : 2 < rk bs i) : qk bs i = 5 ∧ 0 ≤ qs bs i ∧ qs bs i < 128 ∧ opc bs i = (qs bs i).toNat ∧ mch (opc bs i) = (qs bs i).toNat := by
  have key : (qs bs i = 60 ∨ qs bs i = 62 ∨ qs bs i = 61 ∨ qs bs i = 43 ∨ qs bs i = 45 ∨ qs bs i = 42 ∨ qs bs i = 47) ∧ qx bs i ≠ 11 ∧ qx bs i ≠ 10 := by
    unfold rk oC oS oT at h
    by_cases c : qx bs i = 11
    · rw [if_pos c] at h; omega
    rw [if_neg c] at h
    by_cases c' : qx bs i = 10
    · rw [if_pos c'] at h; omega
    rw [if_neg c'] at h
    refine ⟨?_, c, c'⟩
    by_cases c1 : qs bs i = 60 ∨ qs bs i = 62 ∨ qs bs i = 61
    · omega
    rw [if_neg c1] at h
    by_cases c2 : qs bs i = 43 ∨ qs bs i = 45
    · omega
    rw [if_neg c2] at h
    by_cases c3 : qs bs i = 42 ∨ qs bs i = 47
    · omega
    rw [if_neg c3] at h
    simp at h
  obtain ⟨k1, k2, k3⟩ := key
  have e : opc bs i = (qs bs i).toNat := by unfold opc; rw [if_neg k2, if_neg k3]
  have h5 : qk bs i = 5 := by
    unfold qs at k1
    split at k1
    · assumption
    · omega
  refine ⟨h5, by omega, by omega, e, ?_⟩
  rw [e]
  rcases k1 with k | k | k | k | k | k | k <;> (rw [k]; rfl)
theorem y_cmp (hG : GK Γ) (hR : MR M) : ∀ (st : Pk) (n : Nat), (∀ j t, st.reverse[j]? = some t → M.1 125 j = J t.1 ∧ M.1 126 j = J (mch t.2)) → BT st → st ≠ [] → st.length < 90 → st.length < n → f_X12_isCompared_7 (f_X12_isCompared_34 Γ M) Γ M n 102 (J (st.length - 1 : Nat)) = some (bf (isCmp st))
  | [], _, _, _, h, _, _ => absurd rfl h
  | t :: st, n, hp, hB, _, hl, hn => by
    obtain ⟨n, rfl⟩ : ∃ k, n = k + 1 := ⟨n - 1, by omega⟩
    have htop : M.1 125 st.length = J t.1 := by
      refine (hp st.length t ?_).1
      rw [List.reverse_cons, List.getElem?_append_right (by rw [List.length_reverse]; exact Nat.le_refl _), List.length_reverse, Nat.sub_self]; rfl
    have e1 : (t :: st).length - 1 = st.length := by rw [List.length_cons]; omega
    rw [List.length_cons] at hl hn
    have ht9 : t.1 ≤ 8 := by
      cases st with
      | nil => have : t.1 = 8 := hB; omega
      | cons u r => have := hB.1; omega
    rw [e1, f_X12_isCompared_7, rhck_t (GKk102 hG), MRf31 hR, rhck_t (GKk125 hG), rhck_t (by rw [J_toInt (by omega) (by omega), GKl125 hG]; omega), J_clamp (by omega) (by omega), Int.toNat_natCast, htop, isCmp]
    have go : (t.1 = 5 ∨ t.1 = 6) → f_X12_isCompared_28 (f_X12_isCompared_7 (f_X12_isCompared_34 Γ M) Γ M n) Γ M 102 (J st.length) = some (bf (isCmp st)) := fun c => by
      have hne := hB.low (by omega)
      have hpos : 0 < st.length := by
        cases st with
        | nil => exact absurd rfl hne
        | cons u r => rw [List.length_cons]; omega
      show f_X12_isCompared_7 (f_X12_isCompared_34 Γ M) Γ M n 102 (J st.length + (-1)) = _
      rw [show (-1 : Int32) = J (-1) from rfl, J_add, show (st.length : Int) + (-1) = ((st.length - 1 : Nat) : Int) by omega]
      refine y_cmp hG hR st n (fun j u hj => hp j u ?_) hB.tl hne (by omega) (by omega)
      rw [List.reverse_cons, List.getElem?_append_left (by have := (List.getElem?_eq_some_iff.mp hj).1; exact this)]; exact hj
    by_cases c5 : t.1 = 5
    · rw [if_pos (by rw [c5]; rfl), if_pos (Or.inl c5)]; exact go (Or.inl c5)
    rw [if_neg (by rw [show (5 : Int32) = J 5 from rfl, J_eq (by omega) (by omega) (by omega) (by omega)]; omega)]
    by_cases c6 : t.1 = 6
    · rw [if_pos (by rw [c6]; rfl), if_pos (Or.inr c6)]; exact go (Or.inr c6)
    rw [if_neg (by rw [show (6 : Int32) = J 6 from rfl, J_eq (by omega) (by omega) (by omega) (by omega)]; omega), if_neg (fun z => z.elim c5 c6), f_X12_isCompared_34, rhck_t (GKk102 hG), MRf31 hR, rhck_t (GKk125 hG), rhck_t (by rw [J_toInt (by omega) (by omega), GKl125 hG]; omega), J_clamp (by omega) (by omega), Int.toNat_natCast, htop]
    by_cases c4 : t.1 = 4
    · rw [if_pos (by rw [c4]; rfl), c4]; rfl
    · rw [if_neg (by rw [show (4 : Int32) = J 4 from rfl, J_eq (by omega) (by omega) (by omega) (by omega)]; omega), show decide (t.1 = 4) = false by simpa using c4]; rfl
theorem y_pops {r : Nat} (hr : r ≤ 6) (K : rhM → Nat → Int32 → Option (Int32 × rhM)) {Q : Int32 × rhM → Prop} : ∀ (st : Pk) (n : Nat) (M : rhM) (s : Es), st.length < n → EV Γ M b H → QS M bs s.1 → PS M st → EC M b s.2 → M.1 102 37 = J (wth st) → BT st → st ≠ [] → s.2.1.length + st.length < 500 → st.length < 90 → wth st ≤ 7 →
    (∀ M', YL b M M' → QS M' bs s.1 → PS M' (pops r st s).1 → EC M' b (pops r st s).2.2 → M'.1 102 37 = J (wth (pops r st s).1) → wp (K M' 102 (J r)) Q) → wp (f_X12_behindUnit_23 K Γ n M 102 (J r)) Q
  | [], _, _, _, _, _, _, _, _, _, _, h, _, _, _, _ => absurd rfl h
  | t :: st, n, M, s, hn, hE, hQ, hP, hC, hw, hB, _, hl5, hl9, hw7, hK => by
    obtain ⟨n, rfl⟩ : ∃ k, n = k + 1 := ⟨n - 1, by omega⟩
    obtain ⟨hG, hR, hb, h35, hN, hH, h6⟩ := id hE
    rw [List.length_cons] at hn hl5 hl9
    have htop := hP.top
    have ht9 : t.1 ≤ 8 := by
      cases st with
      | nil => have : t.1 = 8 := hB; omega
      | cons u r => have := hB.1; omega
    have e38 : M.1 102 38 - 1 = J (st.length : Nat) := by rw [hP.1, List.length_cons, show (1 : Int32) = J 1 from rfl, J_sub]; congr 1; omega
    rw [pops] at hK
    rw [f_X12_behindUnit_23, wp_ck_t (GKk102 hG), MRf31 hR, wp_ck_t (GKk125 hG), e38, wp_ck_t (by rw [J_toInt (by omega) (by omega), GKl125 hG]; omega), J_clamp (by omega) (by omega), Int.toNat_natCast, htop.1]
    by_cases c : t.1 ≤ 6 ∧ r ≤ t.1
    · rw [if_pos c] at hK
      rw [wp_ite_f (by rw [show (6 : Int32) = J 6 from rfl, J_lt (by omega) (by omega) (by omega) (by omega)]; omega), wp_ite_f (by rw [J_lt (by omega) (by omega) (by omega) (by omega)]; omega)]
      have hne := hB.low (by omega)
      have i38 : (rhsi M 102 38 (J (st.length : Nat))).1 102 38 = J (st.length : Nat) := by rw [si_1, if_pos ⟨rfl, rfl⟩]
      have i125 : (rhsi M 102 38 (J (st.length : Nat))).1 125 = M.1 125 := by funext j; rw [si_1, if_neg (by omega)]
      simp only [i38, i125]
      rw [wp_ck_t (by rw [J_toInt (by omega) (by omega), GKl125 hG]; omega), J_clamp (by omega) (by omega), Int.toNat_natCast, htop.1]
      have L1 : YL b M (rhsi M 102 38 (J (st.length : Nat))) := (YL.refl _ _).si (by omega) _
      have main : ∀ M1 : rhM, YL b M M1 → QS M1 bs s.1 → M1.1 102 38 = J (st.length : Nat) → M1.1 125 = M.1 125 → M1.1 126 = M.1 126 → EC M1 b s.2 → M1.1 102 37 = J (wth st) → wp (f_X12_behindUnit_87 (f_X12_behindUnit_23 K Γ n) Γ M1 102 (J r)) Q := fun M1 k1 q1 a38 a5 a6 c1 w1 => by
        have E1 := hE.yl k1
        rw [f_X12_behindUnit_87, wp_ck_t (GKk102 hG), MRf32 E1.2.1, wp_ck_t (GKk126 hG), a38, wp_ck_t (by rw [J_toInt (by omega) (by omega), GKl126 hG]; omega), J_clamp (by omega) (by omega), Int.toNat_natCast, a6, htop.2, wp_bind]
        refine (y_emit (bs := bs) hG E1.2.1 hb c1 (by omega) (J (mch t.2)) 0).mono (fun M2 z => ?_)
        obtain ⟨z1, z2, z3, z4, z5, z6⟩ := z
        have el : (ae t.2 s).2.1.length = s.2.1.length + 1 := by show (s.2.1 ++ [(t.2, 0)]).length = _; rw [List.length_append]; rfl
        have hw' := wth_le st t
        refine y_pops hr K st n M2 (ae t.2 s) (by omega) (E1.yl z1) (z2 _ q1) ?_ (z6 t.2 0 rfl rfl) (by rw [z5 37 (by decide)]; exact w1) hB.tl hne (by rw [el]; omega) (by omega) (by omega) (fun M' y1 y2 y3 y4 y5 => hK M' (k1.trans (z1.trans y1)) y2 y3 y4 y5)
        exact hP.drop (by rw [z3, a5]) (by rw [z4, a6]) (by rw [z5 38 (by decide)]; exact a38)
      have qq : QS (rhsi M 102 38 (J (st.length : Nat))) bs s.1 := hQ.f (by decide) _
      have cc : EC (rhsi M 102 38 (J (st.length : Nat))) b s.2 := hC.eq (by rw [si_1, if_neg (by omega)]) (by rw [si_1, if_neg (by omega)]) (by funext j; rw [si_1, if_neg (by omega)]) (by funext j; rw [si_1, if_neg (by omega)])
      have w37 : (rhsi M 102 38 (J (st.length : Nat))).1 102 37 = J (wth (t :: st)) := by rw [si_1, if_neg (by omega)]; exact hw
      by_cases c3 : t.1 = 3
      · rw [wp_ite_t (by rw [c3]; rfl)]
        have ew : wth (t :: st) = 1 + wth st := by rw [wth, if_pos (Or.inl c3)]
        have e37 : (rhsi M 102 38 (J (st.length : Nat))).1 102 37 - 1 = J (wth st) := by rw [w37, ew, show (1 : Int32) = J 1 from rfl, J_sub]; congr 1; omega
        rw [e37]
        refine main _ (L1.si (by omega) _) (qq.f (by decide) _) (by rw [si_1, if_neg (by omega)]; exact i38) (by rw [← i125]; funext j; rw [si_1, if_neg (by omega)]) (by funext j; rw [si_1, if_neg (by omega), si_1, if_neg (by omega)]) (cc.eq (by rw [si_1, if_neg (by omega)]) (by rw [si_1, if_neg (by omega)]) (by funext j; rw [si_1, if_neg (by omega)]) (by funext j; rw [si_1, if_neg (by omega)])) (by rw [si_1, if_pos ⟨rfl, rfl⟩])
      · rw [wp_ite_f (by rw [show (3 : Int32) = J 3 from rfl, J_eq (by omega) (by omega) (by omega) (by omega)]; omega)]
        have ew : wth (t :: st) = wth st := by rw [wth, if_neg (by omega), Nat.zero_add]
        rw [ew] at w37
        exact main _ L1 qq i38 i125 (by funext j; rw [si_1, if_neg (by omega)]) cc w37
    · rw [if_neg c] at hK
      have k := hK M (YL.refl _ _) hQ hP hC hw
      by_cases c6 : 6 < t.1
      · rw [wp_ite_t (by rw [show (6 : Int32) = J 6 from rfl, J_lt (by omega) (by omega) (by omega) (by omega)]; omega)]; exact k
      · rw [wp_ite_f (by rw [show (6 : Int32) = J 6 from rfl, J_lt (by omega) (by omega) (by omega) (by omega)]; omega), wp_ite_t (by rw [J_lt (by omega) (by omega) (by omega) (by omega)]; omega)]; exact k
theorem y_behind {st : Pk} {s : Es} (hE : EV Γ M b H) (hX : XSt M b bs (false, st, s)) (hI : XI bs (false, st, s)) (hn : st ≠ []) (hg : s.1.2.1 = 0) : wp (f_X12_behindUnit Γ M 102) (YR b bs M (stB bs st s)) := by
  have hbig := FU_big
  obtain ⟨hG, hR, hb, h35, hN, hH, h6⟩ := id hE
  obtain ⟨hQ, hX⟩ := hX
  obtain ⟨hP, hC, hw⟩ := hX hg
  obtain ⟨iP, iB, iw, iu, ic, il⟩ := hI
  have hQ : QS M bs s.1 := hQ
  have hP : PS M st := hP
  have hC : EC M b s.2 := hC
  have hw : M.1 102 37 = J (wth st) := hw
  have iP : PV st := iP
  have iB : BT st := iB
  have iw : wth st ≤ 7 := iw
  have iu : s.2.2 ≤ 40 := iu
  have ic : s.2.1.length + st.length ≤ 9 * s.2.2 + 1 + 0 := ic
  have hL : st.length ≤ 1 + 7 * wth st + tR6 st := iP.len
  have h6' := tR6_le st
  obtain ⟨i, t1, t2, t3⟩ := id hQ.1
  have ei := t3 hg
  rw [ei] at t1 t2
  have hrk := (rk_all bs s.1.1).2.2.2.2.2
  rw [f_X12_behindUnit, wp_ck_t (GKk102 hG), wp_bind, y_rankHere hG hR t1 t2, wp_some]
  unfold stB
  have main : ¬ (rk bs s.1.1 = 4 ∧ isCmp st = true) → wp (f_X12_behindUnit_23 (f_X12_behindUnit_104 Γ) Γ rhFU M 102 (J (rk bs s.1.1))) (YR b bs M (if rk bs s.1.1 = 4 ∧ isCmp st = true then (true, st, eRfu bs s) else if 0 < rk bs s.1.1 then (true, (rk bs s.1.1, opc bs s.1.1) :: (pops (rk bs s.1.1) st s).1, eAdv bs (pops (rk bs s.1.1) st s).2) else match (pops 0 st s).1 with | [] => (false, [], (pops 0 st s).2) | t :: st2 => if t.1 = 7 then (false, st2, (tSign bs 41 (pops 0 st s).2.1, (pops 0 st s).2.2)) else (false, st2, (pops 0 st s).2))) := fun c => by
    rw [if_neg c]
    obtain ⟨o1, o2, o3, o4, o5, o6, o7, o8, o9⟩ := pops_ok (rk bs s.1.1) st s iP iB hn
    refine y_pops (by omega) _ st rhFU M s (by omega) hE hQ hP hC hw iB hn (by omega) (by omega) iw (fun M1 k1 q1 p1 c1 w1 => ?_)
    have E1 := hE.yl k1
    rw [f_X12_behindUnit_104]
    by_cases c0 : 0 < rk bs s.1.1
    · rw [if_pos c0, wp_ite_t (by rw [show (0 : Int32) = J 0 from rfl, J_lt (by omega) (by omega) (by omega) (by omega)]; omega)]
      generalize hpp : pops (rk bs s.1.1) st s = p at *
      have f138 : ∀ w : Int32, w = J (mch (opc bs s.1.1)) → wp (f_X12_behindUnit_138 Γ M1 102 102 (J (rk bs s.1.1)) w) (YR b bs M (true, (rk bs s.1.1, opc bs s.1.1) :: p.1, eAdv bs p.2)) := fun w hw' => by
        rw [f_X12_behindUnit_138, wp_ck_t (GKk102 hG), wp_bind]
        refine (y_push (b := b) (bs := bs) hG E1.2.1 p1 (by omega) (k := rk bs s.1.1) (c := opc bs s.1.1) hw').mono (fun M2 z => ?_)
        obtain ⟨z1, z2, z3, z4, z5⟩ := z
        have E2 := E1.yl z1
        rw [wp_ck_t (GKk102 hG), wp_bind]
        refine (y_goOn hG E2.2.1 (z2 _ q1) hg).mono (fun M3 y => (wp_some _ _).mpr ?_)
        have ew : wth ((rk bs s.1.1, opc bs s.1.1) :: p.1) = wth p.1 := by
          rw [wth, if_neg (by show ¬ (rk bs s.1.1 = 3 ∨ rk bs s.1.1 = 7); omega), Nat.zero_add]
        refine ⟨rfl, k1.trans (z1.trans (YL.yx y.1)), ?_, fun _ => ⟨?_, ?_, ?_⟩⟩
        · show QS M3 bs (adv bs p.2.1)
          rw [o6]; exact y.2
        · exact z3.eq (by rw [y.1.1.i (by decide)]) (by rw [y.1.1.i (by decide)]) (y.1.2 38 (by decide))
        · exact c1.eq (by rw [y.1.2 36 (by decide), z5 36 (by decide)]) (by rw [y.1.1.i (by decide), z4 108 (by decide) (by decide) (by decide)]) (by rw [y.1.1.i (by decide), z4 123 (by decide) (by decide) (by decide)]) (by rw [y.1.1.i (by decide), z4 124 (by decide) (by decide) (by decide)])
        · rw [y.1.2 37 (by decide), z5 37 (by decide), w1, ew]
      by_cases c2 : rk bs s.1.1 = 2
      · rw [wp_ite_t (by rw [c2]; rfl)]
        refine f138 38 ?_
        have : qx bs s.1.1 = 11 := by
          have := (rk_all bs s.1.1).1
          rw [if_pos c2] at this
          unfold oA at this
          split at this
          · assumption
          · cases this
        unfold opc
        rw [if_pos this]; rfl
      rw [wp_ite_f (by rw [show (2 : Int32) = J 2 from rfl, J_eq (by omega) (by omega) (by omega) (by omega)]; omega)]
      by_cases c3 : rk bs s.1.1 = 1
      · rw [wp_ite_t (by rw [c3]; rfl)]
        refine f138 124 ?_
        have h10 : qx bs s.1.1 = 10 := by
          have := (rk_all bs s.1.1).2.1
          rw [if_pos c3] at this
          unfold oO at this
          split at this
          · assumption
          · cases this
        unfold opc
        rw [if_neg (by omega), if_pos h10]; rfl
      rw [wp_ite_f (by rw [show (1 : Int32) = J 1 from rfl, J_eq (by omega) (by omega) (by omega) (by omega)]; omega), wp_ck_t (GKk102 hG)]
      obtain ⟨j, j1, j2, j3⟩ := id q1.1
      have ej := j3 hg
      rw [ej] at j1 j2
      have op := opc_ok (bs := bs) (i := s.1.1) (by omega)
      have hq := (qp_le t2).2
      have hl16 := t1.1.2.2.1
      rw [j1.2.1, wp_bind, r_sign hG E1.2.1 j1.1 (by omega), wp_some]
      refine f138 _ ?_
      have eq1 : qs bs s.1.1 = bt bs (qp bs s.1.1) := by unfold qs; rw [if_pos op.1]
      rw [op.2.2.2.2, ut_pos (by rw [← eq1]; exact op.2.1), ← eq1, Int.toNat_of_nonneg op.2.1]
    · rw [if_neg c0, wp_ite_f (by rw [show (0 : Int32) = J 0 from rfl, J_lt (by omega) (by omega) (by omega) (by omega)]; omega), wp_ck_t (GKk102 hG)]
      have r0 : rk bs s.1.1 = 0 := by omega
      rw [r0] at o1 o2 o3 o4 o5 o6 o7 o8 o9 p1 c1 w1
      generalize pops 0 st s = p at *
      obtain ⟨p1', p2'⟩ := p
      cases p1' with
      | nil => exact absurd rfl o3
      | cons t st2 =>
        have p1 : PS M1 (t :: st2) := p1
        have c1 : EC M1 b p2'.2 := c1
        have w1 : M1.1 102 37 = J (wth (t :: st2)) := w1
        have o6 : p2'.1 = s.1 := o6
        have o9 : st2.length + 1 ≤ st.length := o9
        have o4 : wth (t :: st2) ≤ wth st := o4
        have o2 : BT (t :: st2) := o2
        have o8 : t.1 < 0 ∨ 7 ≤ t.1 := o8
        have ht9 : t.1 ≤ 8 := by
          cases st2 with
          | nil => have : t.1 = 8 := o2; omega
          | cons u r => have := o2.1; omega
        have e38 : M1.1 102 38 - 1 = J (st2.length : Nat) := by rw [p1.1, List.length_cons, show (1 : Int32) = J 1 from rfl, J_sub]; congr 1; omega
        rw [e38, MRf31 E1.2.1, wp_ck_t (GKk125 hG)]
        have i38 : (rhsi M1 102 38 (J (st2.length : Nat))).1 102 38 = J (st2.length : Nat) := by rw [si_1, if_pos ⟨rfl, rfl⟩]
        have i125 : (rhsi M1 102 38 (J (st2.length : Nat))).1 125 = M1.1 125 := by funext j; rw [si_1, if_neg (by omega)]
        have i37 : (rhsi M1 102 38 (J (st2.length : Nat))).1 102 37 = M1.1 102 37 := by rw [si_1, if_neg (by omega)]
        simp only [i38, i125, i37]
        rw [wp_ck_t (by rw [J_toInt (by omega) (by omega), GKl125 hG]; omega), J_clamp (by omega) (by omega), Int.toNat_natCast, p1.top.1]
        have L1 : YL b M1 (rhsi M1 102 38 (J (st2.length : Nat))) := (YL.refl _ _).si (by omega) _
        have qq : QS (rhsi M1 102 38 (J (st2.length : Nat))) bs s.1 := q1.f (by decide) _
        have cc : EC (rhsi M1 102 38 (J (st2.length : Nat))) b p2'.2 := c1.eq (by rw [si_1, if_neg (by omega)]) (by rw [si_1, if_neg (by omega)]) (by funext j; rw [si_1, if_neg (by omega)]) (by funext j; rw [si_1, if_neg (by omega)])
        have pp : PS (rhsi M1 102 38 (J (st2.length : Nat))) st2 := p1.drop i125 (by funext j; rw [si_1, if_neg (by omega)]) i38
        by_cases c7 : t.1 = 7
        · rw [wp_ite_t (by rw [c7]; rfl)]
          have ew : wth (t :: st2) = 1 + wth st2 := by rw [wth, if_pos (Or.inr c7)]
          have e37 : M1.1 102 37 - 1 = J (wth st2) := by rw [w1, ew, show (1 : Int32) = J 1 from rfl, J_sub]; congr 1; omega
          rw [e37]
          show wp (((f_X12_stands Γ (rhsi (rhsi M1 102 38 (J (st2.length : Nat))) 102 37 (J (wth st2))) 102 (J (41 : Nat))).bind _)) (YR b bs M (if t.1 = 7 then (false, st2, (tSign bs 41 p2'.1, p2'.2)) else (false, st2, p2')))
          rw [if_pos c7]
          have L2 := L1.si (r := 102) (j := 37) (by omega) (J (wth st2))
          refine y_sign hG (hE.yl (k1.trans L2)).2.1 (qq.f (by decide) _) (c := 41) (by decide) (fun M3 y1 y2 => (wp_some _ _).mpr ?_)
          refine ⟨rfl, k1.trans (L2.trans (YL.yx y1)), ?_, fun _ => ⟨?_, ?_, ?_⟩⟩
          · show QS M3 bs (tSign bs 41 p2'.1)
            rw [o6]; exact y2
          · refine pp.eq ?_ ?_ ?_
            · rw [y1.1.i (by decide)]; funext j; rw [si_1, if_neg (by omega)]
            · rw [y1.1.i (by decide)]; funext j; rw [si_1, if_neg (by omega)]
            · rw [y1.2 38 (by decide), si_1, if_neg (by omega)]
          · refine cc.eq ?_ ?_ ?_ ?_
            · rw [y1.2 36 (by decide), si_1, if_neg (by omega)]
            · rw [y1.1.i (by decide), si_1, if_neg (by omega)]
            · rw [y1.1.i (by decide)]; funext j; rw [si_1, if_neg (by omega)]
            · rw [y1.1.i (by decide)]; funext j; rw [si_1, if_neg (by omega)]
          · rw [y1.2 37 (by decide), si_1, if_pos ⟨rfl, rfl⟩]
        · rw [wp_ite_f (by rw [show (7 : Int32) = J 7 from rfl, J_eq (by omega) (by omega) (by omega) (by omega)]; omega), wp_some]
          show YR b bs M (if t.1 = 7 then (false, st2, (tSign bs 41 p2'.1, p2'.2)) else (false, st2, p2')) _
          rw [if_neg c7]
          have e0 : st2 = [] := o2.top (by omega)
          have ew : wth (t :: st2) = wth st2 := by rw [wth, if_neg (by omega), Nat.zero_add]
          refine ⟨rfl, k1.trans L1, ?_, fun _ => ⟨pp, cc, by rw [i37, w1, ew]⟩⟩
          show QS _ bs p2'.1
          rw [o6]; exact qq
  by_cases c4 : rk bs s.1.1 = 4
  · have hl0 : 0 < st.length := by
      cases st with
      | nil => exact absurd rfl hn
      | cons t r => rw [List.length_cons]; omega
    rw [wp_ite_t (by rw [c4]; rfl), wp_bind, f_X12_isCompared, rhck_t (GKk102 hG)]
    show wp (f_X12_isCompared_7 (f_X12_isCompared_34 Γ M) Γ M rhFU 102 (M.1 102 38 - 1)) _
    rw [hP.1, show J (st.length : Nat) - 1 = J ((st.length - 1 : Nat) : Int) by rw [show (1 : Int32) = J 1 from rfl, J_sub]; congr 1; omega, y_cmp hG hR st rhFU hP.2 iB hn (by omega) (by omega), wp_some]
    by_cases cc : isCmp st = true
    · rw [wp_ite_f (by rw [cc]; decide), wp_bind, if_pos ⟨c4, cc⟩]
      have hb4 := rfu_bad (bs := bs) s.1
      refine (y_mis hG hQ).mono (fun M1 z => (wp_some _ _).mpr ⟨rfl, YL.yx z.1, z.2, fun q => absurd q hb4⟩)
    · have cc' : isCmp st = false := by simpa using cc
      rw [wp_ite_t (by rw [cc']; rfl)]
      exact main (fun z => cc z.2)
  · rw [wp_ite_f (by rw [show (4 : Int32) = J 4 from rfl, J_eq (by omega) (by omega) (by omega) (by omega)]; omega)]
    exact main (fun z => c4 z.1)
end
