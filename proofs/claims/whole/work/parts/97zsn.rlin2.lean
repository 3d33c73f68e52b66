section
variable {Γ : rhG} {b : Nat} {M M' : rhM} {bs : List Int32} {B : Bd} {s : Ps}
theorem y_h206 (hE : RE Γ M b) (hP : PW B) (hH : (bH B).length < 8) {nm : List Nat} {l w r : Nat} {own : Int64} (h6 : M.1 106 b = J (bH B).length) : wp (f_X12_readHouse_206 Γ M 102 (J (8 * b + (bH B).length : Nat)) own) (fun M' => YB b M M' ∧ (∀ s5 : Ps, QS M bs s5 → QS M' bs s5) ∧ (RKB M b B → M.1 113 (8 * b + (bH B).length) = J l → M.1 114 (8 * b + (bH B).length) = J w → M.1 115 (8 * b + (bH B).length) = J r → own = jl (enb 256 0 nm) → nm.length ≤ 8 → (∀ c, c ∈ nm → 97 ≤ c ∧ c ≤ 122) → RKB M' b (bR B, bH B ++ [(nm, l, w, r)], B.2.2))) := by
  obtain ⟨hG, hRm, hb, h35⟩ := id hE
  have lH : (bHn B).length = (bH B).length := List.length_map _
  rw [f_X12_readHouse_206, wp_ck_t (GKk102 hG), MRf28 hRm, wp_ck_t (GKk122 hG), wp_ck_t (by rw [J_toInt (by omega) (by omega), GKl122 hG]; omega), J_clamp (by omega) (by omega), Int.toNat_natCast, MRf12 hRm, wp_ck_t (GKk106 hG), h35, wp_ck_t (by rw [J_toInt (by omega) (by omega), GKl106 hG]; omega), J_clamp (by omega) (by omega), Int.toNat_natCast, h6, show J (bH B).length + 1 = J ((bH B).length + 1 : Nat) by rw [show (1 : Int32) = J 1 from rfl, J_add, J_suc], wp_some]
  have Y : YB b M (rhsi (rhsl M 122 (8 * b + (bH B).length) own) 106 b (J ((bH B).length + 1 : Nat))) := ((YB.refl b M).sl (r := 122) (by decide) own).si (r := 106) (j := b) (by decide) (by decide) (by show b / 1 ≠ 1 - b; omega) _
  refine ⟨Y, fun s5 q => (q.sl (by decide) _ _).c (by decide) (by decide) _ _, fun hK g3 g4 g5 go gn gc => ?_⟩
  obtain ⟨⟨k0, k1, k2, k3, k4⟩, ⟨kn1, kn2⟩, kl, ks, kw, kc, kf, k111⟩ := hK
  generalize hM6 : rhsi (rhsl M 122 (8 * b + (bH B).length) own) 106 b (J ((bH B).length + 1 : Nat)) = M6 at *
  have o : ∀ r, r ≠ 106 → M6.1 r = M.1 r := fun r h1 => by rw [← hM6]; funext k; rw [si_1, if_neg (fun q => h1 q.1), sl_1]
  have ol : M6.2.1 = (rhsl M 122 (8 * b + (bH B).length) own).2.1 := by rw [← hM6, si_2]
  have lA : (bH B ++ [(nm, l, w, r)]).length = (bH B).length + 1 := by rw [List.length_append]; rfl
  refine ⟨⟨by rw [o 105 (by decide)]; exact k0, ?_, by rw [o 107 (by decide)]; exact k2, by rw [o 109 (by decide)]; exact k3, by rw [o 110 (by decide)]; exact k4⟩, ⟨?_, ?_⟩, ?_, ?_, ?_, ?_, ?_, ?_⟩
  · show M6.1 106 b = J ((bH B ++ [(nm, l, w, r)]).length : Nat)
    rw [lA, ← hM6, si_1, if_pos ⟨rfl, rfl⟩]
  · refine kn1.eq ?_
    rw [ol]; funext k; rw [sl_2, if_neg (by omega)]
  · show RN M6 122 (8 * b) ((bH B ++ [(nm, l, w, r)]).map fun x => x.1)
    rw [List.map_append]
    refine RN.add (H := bHn B) kn2 (fun k hk => ?_) ?_ gn gc
    · rw [ol, sl_2, if_neg (by omega)]
    · rw [ol, sl_2, if_pos ⟨rfl, by omega⟩]; exact go
  · rw [o 112 (by decide)]; exact kl
  · rw [o 113 (by decide), o 114 (by decide), o 115 (by decide)]
    intro h hh
    have hh : h < (bH B ++ [(nm, l, w, r)]).length := hh
    rw [lA] at hh
    unfold hL hW hR
    rw [hX_add]
    by_cases c : h = (bH B).length
    · rw [if_pos c, c]; exact ⟨g3, g4, g5⟩
    · rw [if_neg c]; exact ks h (by omega)
  · rw [o 116 (by decide), o 120 (by decide)]; exact kw
  · exact kc.eq (by rw [o 102 (by decide)]) (by rw [o 108 (by decide)]) (o 123 (by decide)) (o 124 (by decide))
  · rw [o 117 (by decide), o 118 (by decide), o 119 (by decide)]; exact kf
  · rw [o 111 (by decide)]; exact k111
theorem y_h121 (hE : RE Γ M b) (hK : RKB M b B) (hP : PW B) (own : Int64) (r : Nat) (hr : r < 100) (K : rhM → Nat → Int32 → Int64 → Int32 → Int32 → Option rhM) : ∀ (d i n acc : Nat), i + d = (bH B).length → d < n → f_X12_readHouse_121 K Γ n M 102 (J (8 * b + (bH B).length : Nat)) own (J r) (J acc) (J (8 * b + i : Nat)) = K M 102 (J (8 * b + (bH B).length : Nat)) own (J r) (J (acc + sm (hL B) ((List.range' i d).filter fun k => decide (hR B k = r)) : Nat)) := by
  obtain ⟨hG, hR', hb, h35⟩ := id hE
  have h8 := hP.1.2.1
  intro d
  induction d with
  | zero =>
    intro i n acc hi hn
    obtain ⟨n, rfl⟩ : ∃ k, n = k + 1 := ⟨n - 1, by omega⟩
    rw [f_X12_readHouse_121, if_neg (by rw [J_lt (by omega) (by omega) (by omega) (by omega)]; omega)]
    simp [sm]
  | succ d ih =>
    intro i n acc hi hn
    obtain ⟨n, rfl⟩ : ∃ k, n = k + 1 := ⟨n - 1, by omega⟩
    obtain ⟨e13, e14, e15⟩ := hK.2.2.2.1 i (by omega)
    have h5 := (hP.2.2.1 i (by omega)).2.2.2.2
    have h5' := hP.1.1
    rw [f_X12_readHouse_121, if_pos (by rw [J_lt (by omega) (by omega) (by omega) (by omega)]; omega), rhck_t (GKk102 hG), MRf21 hR', rhck_t (GKk115 hG), rhck_t (by rw [J_toInt (by omega) (by omega), GKl115 hG]; omega), J_clamp (by omega) (by omega), Int.toNat_natCast, e15]
    rw [List.range'_succ, List.filter_cons]
    have e1 : J (8 * b + i : Nat) + 1 = J ((8 * b + (i + 1) : Nat) : Int) := by rw [show (1 : Int32) = J 1 from rfl, J_add]; congr 1
    by_cases c : hR B i = r
    · rw [if_pos (by rw [c]), if_pos (by simpa using c), MRf19 hR', rhck_t (GKk113 hG), rhck_t (by rw [J_toInt (by omega) (by omega), GKl113 hG]; omega), e13]
      show f_X12_readHouse_121 K Γ n M 102 (J (8 * b + (bH B).length : Nat)) own (J r) (J acc + J (hL B i)) (J (8 * b + i : Nat) + 1) = _
      rw [e1, J_add, show (acc : Int) + (hL B i : Nat) = ((acc + hL B i : Nat) : Int) by omega, ih (i + 1) n (acc + hL B i) (by omega) (by omega), sm_cons, Nat.add_assoc]
    · rw [if_neg (by rw [J_eq (by omega) (by omega) (by omega) (by omega)]; omega), if_neg (by simpa using c)]
      show f_X12_readHouse_121 K Γ n M 102 (J (8 * b + (bH B).length : Nat)) own (J r) (J acc + 0) (J (8 * b + i : Nat) + 1) = _
      rw [e1, show (0 : Int32) = J 0 from rfl, J_add, show (acc : Int) + 0 = (acc : Int) by omega, ih (i + 1) n acc (by omega) (by omega)]
theorem y_h161 (hE : RE Γ M b) (hP : PW B) (hK : RKB M b B) (hH : (bH B).length < 8) {nm : List Nat} {l w r : Nat} {own : Int64} {s8 : Ps} (hQ : QS M bs s8) (hg : s8.2.1 = 0) (hr : r < (bR B).length) (hl : l ≤ 9999) (g3 : M.1 113 (8 * b + (bH B).length) = J l) (g4 : M.1 114 (8 * b + (bH B).length) = J w) (g5 : M.1 115 (8 * b + (bH B).length) = J r) (go : own = jl (enb 256 0 nm)) (gn : nm.length ≤ 8) (gc : ∀ c, c ∈ nm → 97 ≤ c ∧ c ≤ 122)
    {xx : Rs} (eL : xx = (tSign bs 59 (if qs bs s8.1 = 59 ∧ bLen B r < bOn B r + l then bla 6 (qp bs s8.1) s8 else s8), (bR B, bH B ++ [(nm, l, w, r)], B.2.2))) :
    wp (f_X12_readHouse_161 Γ M 102 (J (8 * b + (bH B).length : Nat)) own (J r) (J (l + bOn B r : Nat))) (fun M' => YB b M M' ∧ ∃ s5, QS M' bs s5 ∧ (tSign bs 59 s5).2 = xx.1.2 ∧ (xx.1.2.1 = 0 → tSign bs 59 s5 = xx.1 ∧ RKB M' b xx.2)) := by
  obtain ⟨hG, hRm, hb, h35⟩ := id hE
  obtain ⟨i, t1, t2, t3⟩ := id hQ.1
  have ei := t3 hg
  rw [ei] at t1 t2
  have h5 := hP.1.1
  have h8 := hP.1.2.1
  have hbo : bOn B r ≤ 72 := by
    rw [bOn_hOn]
    have h2 := sm_le (g := hL B) (c := 9) (l := hOn B r) (fun x hx => (hP.2.2.1 x (hOn_lt hx)).2.1)
    have h3 : (hOn B r).length ≤ (bH B).length := by
      unfold hOn
      have := List.length_filter_le (fun h => decide (hR B h = r)) (List.range (bH B).length)
      rw [List.length_range] at this; exact this
    omega
  have hbl := (hP.2.1 _ hr).2
  rw [f_X12_readHouse_161, wp_ck_t (GKk102 hG)]
  show wp ((f_X12_stands Γ M 102 (J (59 : Nat))).bind _) _
  rw [wp_bind, y_standsA hG hRm t1 t2 (c := 59) (by decide), wp_some]
  by_cases c : qs bs s8.1 = (59 : Nat)
  · have c' : qs bs s8.1 = 59 := c
    rw [if_pos c, wp_ite_f (by decide), MRf18 hRm, wp_ck_t (GKk112 hG), h35, show 5 * J b + J r = J ((5 * b + r : Nat) : Int) by rw [show (5 : Int32) = J 5 from rfl, J_mul, J_add]; congr 1, wp_ck_t (by rw [J_toInt (by omega) (by omega), GKl112 hG]; omega), J_clamp (by omega) (by omega), Int.toNat_natCast, hK.2.2.1 r hr]
    by_cases c2 : bLen B r < bOn B r + l
    · have e5 : (if qs bs s8.1 = 59 ∧ bLen B r < bOn B r + l then bla 6 (qp bs s8.1) s8 else s8) = bla 6 (qp bs s8.1) s8 := if_pos ⟨c', c2⟩
      rw [e5] at eL
      have hb4 := bla_bad 6 (qp bs s8.1) (by decide) s8
      rw [wp_ite_t (by rw [J_lt (by omega) (by omega) (by omega) (by omega)]; omega), t1.2.1]
      show wp ((f_X12_fails Γ M 102 (J (6 : Nat)) (J (qp bs s8.1))).bind _) _
      rw [wp_bind]
      refine (y_fails hG hQ (k := 6) (by decide)).mono (fun M1 z => ?_)
      refine (y_h206 (l := l) (w := w) (r := r) (nm := nm) (bs := bs) (z.1.re hE) hP hH (by rw [z.1.1.i (by decide)]; exact hK.1.2.1)).mono (fun M2 y => ⟨(YB.yx hb z.1).trans y.1, _, y.2.1 _ z.2, by rw [eL], fun g => ?_⟩)
      rw [eL] at g
      exact absurd (tSign_good g).1 hb4
    · have e5 : (if qs bs s8.1 = 59 ∧ bLen B r < bOn B r + l then bla 6 (qp bs s8.1) s8 else s8) = s8 := if_neg (fun q => c2 q.2)
      rw [e5] at eL
      rw [wp_ite_f (by rw [J_lt (by omega) (by omega) (by omega) (by omega)]; omega)]
      refine (y_h206 (l := l) (w := w) (r := r) (nm := nm) (bs := bs) hE hP hH hK.1.2.1).mono (fun M2 y => ⟨y.1, s8, y.2.1 _ hQ, by rw [eL], fun g => ?_⟩)
      rw [eL]
      exact ⟨rfl, y.2.2 hK g3 g4 g5 go gn gc⟩
  · have c' : ¬ qs bs s8.1 = 59 := c
    have e5 : (if qs bs s8.1 = 59 ∧ bLen B r < bOn B r + l then bla 6 (qp bs s8.1) s8 else s8) = s8 := if_neg (fun q => c' q.1)
    rw [e5] at eL
    have hb4 := rfu_bad (bs := bs) s8
    have eS : tSign bs 59 s8 = rfu bs s8 := by unfold tSign; rw [if_neg (fun q => c' q.2)]
    rw [if_neg c, wp_ite_t rfl, wp_bind]
    refine (y_mis hG hQ).mono (fun M1 z => ?_)
    refine (y_h206 (l := l) (w := w) (r := r) (nm := nm) (bs := bs) (z.1.re hE) hP hH (by rw [z.1.1.i (by decide)]; exact hK.1.2.1)).mono (fun M2 y => ⟨(YB.yx hb z.1).trans y.1, _, y.2.1 _ z.2, by rw [eL, tSign_2 hb4, eS], fun g => ?_⟩)
    rw [eL, eS] at g
    exact absurd g hb4
end
