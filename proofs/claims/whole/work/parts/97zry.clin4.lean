section
variable {Γ : rhG} {t : Nat} {bs : List Int32}
theorem c_addHouse_20 (hk2 : Γ.2.2.1 (t + 2) = 15 ∧ Γ.2.2.2 (t + 2) = 256) (hk3 : Γ.2.2.1 (t + 3) = 15 ∧ Γ.2.2.2 (t + 3) = 256) (hkt : Γ.2.2.1 t = 10) {H l w : Nat} (hH : H < 8) {f g : Nat → Nat} : ∀ (n : Nat) (M : rhM) (i : Nat), i ≤ 2 ^ H → 2 ^ H - i < n → M.2.2 t 7 = t + 2 → M.2.2 t 8 = t + 3 → M.1 t 1 = J H → (∀ S, S < 2 ^ H → M.1 (t + 2) S = J (f S) ∧ M.1 (t + 3) S = J (g S)) → (∀ S, S < i → M.1 (t + 2) (2 ^ H + S) = J (f S + l : Nat) ∧ M.1 (t + 3) (2 ^ H + S) = J (g S + w : Nat)) →
    wp (f_X9_addHouse_20 (f_X9_addHouse_68 Γ) Γ n M t (J l) (J w) (J ((2 ^ H : Nat) : Int)) (J i)) (fun M' => Fr [t, t + 2, t + 3] M M' ∧ (∀ k, k ≠ 1 → M'.1 t k = M.1 t k) ∧ M'.1 t 1 = J (H + 1 : Nat) ∧ ∀ S, S < 2 ^ H → (M'.1 (t + 2) S = J (f S) ∧ M'.1 (t + 3) S = J (g S)) ∧ M'.1 (t + 2) (2 ^ H + S) = J (f S + l : Nat) ∧ M'.1 (t + 3) (2 ^ H + S) = J (g S + w : Nat)) := by
  intro n
  induction n with
  | zero => intro M i _ h; omega
  | succ n ih =>
    intro M i hi hn r7 r8 h1 hv hd
    have hP : 2 ^ H ≤ 2 ^ 7 := Nat.pow_le_pow_right (by decide) (by omega)
    have hP : 2 ^ H ≤ 128 := hP
    rw [f_X9_addHouse_20]
    by_cases c : i < 2 ^ H
    · have eo : J i ||| J ((2 ^ H : Nat) : Int) = J ((2 ^ H + i : Nat) : Int) := by
        rw [J_or, Nat.or_comm, show 2 ^ H = 1 * 2 ^ H from (Nat.one_mul _).symm, or_add c]
      rw [wp_ite_t (by rw [J_lt (by omega) (by omega) (by omega) (by omega)]; omega), wp_ck_t hkt, r7, r8, eo, wp_ck_t hk2.1, wp_ck_t (by rw [J_toInt (by omega) (by omega), hk2.2]; omega), wp_ck_t (by rw [J_toInt (by omega) (by omega), hk2.2]; omega), wp_ck_t hk3.1, wp_ck_t (by rw [J_toInt (by omega) (by omega), hk3.2]; omega), wp_ck_t (by rw [J_toInt (by omega) (by omega), hk3.2]; omega)]
      show wp (f_X9_addHouse_20 (f_X9_addHouse_68 Γ) Γ n (rhsi (rhsi M (t + 2) (J ((2 ^ H + i : Nat) : Int)).toNatClampNeg (M.1 (t + 2) (J i).toNatClampNeg + J l)) (t + 3) (J ((2 ^ H + i : Nat) : Int)).toNatClampNeg ((rhsi M (t + 2) (J ((2 ^ H + i : Nat) : Int)).toNatClampNeg (M.1 (t + 2) (J i).toNatClampNeg + J l)).1 (t + 3) (J i).toNatClampNeg + J w)) t (J l) (J w) (J ((2 ^ H : Nat) : Int)) (J i + 1)) _
      rw [J_clamp (by omega) (by omega), J_clamp (by omega) (by omega), Int.toNat_natCast, Int.toNat_natCast, si_1, if_neg (by omega), (hv i c).1, (hv i c).2, J_add, J_add, show (1 : Int32) = J 1 from rfl, J_add, J_suc]
      rw [show ((f i : Int) + l) = ((f i + l : Nat) : Int) by omega, show ((g i : Int) + w) = ((g i + w : Nat) : Int) by omega]
      have F : Fr [t, t + 2, t + 3] M (rhsi (rhsi M (t + 2) (2 ^ H + i) (J (f i + l : Nat))) (t + 3) (2 ^ H + i) (J (g i + w : Nat))) := ((Fr.refl _ _).si (by simp) _ _).si (by simp) _ _
      refine (ih (rhsi (rhsi M (t + 2) (2 ^ H + i) (J (f i + l : Nat))) (t + 3) (2 ^ H + i) (J (g i + w : Nat))) (i + 1) (by omega) (by omega) r7 r8 (by rw [si_1, if_neg (by omega), si_1, if_neg (by omega)]; exact h1) (fun S hS => ?_) (fun S hS => ?_)).mono (fun M' z => ⟨F.trans z.1, fun k hk => ?_, z.2.2⟩)
      · rw [si_1, if_neg (by omega), si_1, if_neg (by omega), si_1, if_neg (by omega), si_1, if_neg (by omega)]; exact hv S hS
      · by_cases c2 : S = i
        · rw [c2, si_1, if_neg (by omega), si_1, if_pos ⟨rfl, rfl⟩, si_1, if_pos ⟨rfl, rfl⟩]; exact ⟨rfl, rfl⟩
        · rw [si_1, if_neg (by omega), si_1, if_neg (by omega), si_1, if_neg (by omega), si_1, if_neg (by omega)]; exact hd S (by omega)
      · rw [z.2.1 k hk, si_1, if_neg (by omega), si_1, if_neg (by omega)]
    · rw [wp_ite_f (by rw [J_lt (by omega) (by omega) (by omega) (by omega)]; omega), f_X9_addHouse_68, wp_ck_t hkt, h1, show (1 : Int32) = J 1 from rfl, J_add, J_suc, wp_some]
      refine ⟨(Fr.refl _ _).si (by simp) _ _, fun k hk => by rw [si_1, if_neg (fun q => hk q.2)], by rw [si_1, if_pos ⟨rfl, rfl⟩], fun S hS => ?_⟩
      rw [si_1, if_neg (by omega), si_1, if_neg (by omega), si_1, if_neg (by omega), si_1, if_neg (by omega)]
      exact ⟨hv S hS, hd S (by omega)⟩
theorem hOn_add (B : Bd) (x : List Nat × Nat × Nat × Nat) (r : Nat) : hOn (bR B, bH B ++ [x], B.2.2) r = hOn B r ++ (if x.2.2.2 = r then [(bH B).length] else []) := by
  have e1 : hOn (bR B, bH B ++ [x], B.2.2) r = (List.range (bH B ++ [x]).length).filter fun h => decide (hR (bR B, bH B ++ [x], B.2.2) h = r) := rfl
  have e2 : ∀ h, hR (bR B, bH B ++ [x], B.2.2) h = if h = (bH B).length then x.2.2.2 else hR B h := fun h => by
    unfold hR; rw [hX_add]; split <;> rfl
  rw [e1, List.length_append, List.length_singleton, List.range_succ, List.filter_append]
  congr 1
  · unfold hOn
    apply List.filter_congr
    intro h hh
    have := List.mem_range.mp hh
    rw [e2, if_neg (by omega)]
  · rw [List.filter_cons, e2, if_pos rfl]
    by_cases c : x.2.2.2 = r
    · rw [if_pos (by simpa using c), if_pos c]; rfl
    · rw [if_neg (by simpa using c), if_neg c]; rfl
theorem hOn_lt {B : Bd} {r h : Nat} (q : h ∈ hOn B r) : h < (bH B).length := by
  unfold hOn at q; exact List.mem_range.mp (List.mem_filter.mp q).1
theorem hOn_cl (B : Bd) (r : Nat) (g : Nat → Nat) : sm g (cl (bH B).length (ss (hOn B r))) = sm g (hOn B r) := by
  apply sm_perm
  refine cl_perm ?_ (fun x hx => hOn_lt hx)
  unfold hOn
  exact List.Pairwise.sublist List.filter_sublist List.nodup_range
theorem c_addHouse {M : rhM} (hT : TSh Γ M t) (ht : t = 11 ∨ t = 22) {B : Bd} (hP : PW B) (hK : CK M t B) {nm : List Nat} {l w r : Nat} (hl : nm.length ≤ 8) (hc : ∀ c, c ∈ nm → 97 ≤ c ∧ c ≤ 122) (hH : (bH B).length < 8) (hr : r < 5) {M0 : rhM} (hM0 : M0 = rhsi (rhsi (rhsl M 8 (bH B).length (jl (enc nm))) 9 (bH B).length (J r)) 10 r (J (ss (hOn B r ++ [(bH B).length]) : Nat))) :
    wp (f_X9_addHouse Γ M0 t (J l) (J w)) (fun M' => Fr [8, 9, 10, t, t + 2, t + 3] M M' ∧ M'.1 t 0 = M.1 t 0 ∧ M'.1 t 1 = J ((bH B).length + 1 : Nat) ∧ CK M' t (bR B, bH B ++ [(nm, l, w, r)], B.2.2)) := by
  have hbig := FU_big
  have lH : (bHn B).length = (bH B).length := List.length_map _
  have F0 : Fr [8, 9, 10, t, t + 2, t + 3] M M0 := by rw [hM0]; exact (((Fr.refl _ _).sl (by simp) _ _).si (by simp) _ _).si (by simp) _ _
  have i0 : ∀ a, a ≠ 9 → a ≠ 10 → M0.1 a = M.1 a := fun a h1 h2 => by funext k; rw [hM0, si_1, if_neg (fun q => h2 q.1), si_1, if_neg (fun q => h1 q.1), sl_1]
  have hP7 : 2 ^ (bH B).length ≤ 2 ^ 7 := Nat.pow_le_pow_right (by decide) (by omega)
  have hP7 : 2 ^ (bH B).length ≤ 128 := hP7
  obtain ⟨⟨k0, k1, k2, k3, k4⟩, ⟨kn1, kn2⟩, kl, ks, kw, kh, kr, kc, kf⟩ := id hK
  have j1 : M0.1 t 1 = J (bH B).length := by rw [i0 t (by omega) (by omega)]; exact k1
  rw [f_X9_addHouse, wp_ck_t hT.1, j1, wp_ite_t (by rw [show (8 : Int32) = J 8 from rfl, J_lt (by omega) (by omega) (by omega) (by omega)]; omega)]
  show wp (f_X9_addHouse_20 (f_X9_addHouse_68 Γ) Γ rhFU M0 t (J l) (J w) ((1 : Int32) <<< (J ((bH B).length : Nat) &&& 31)) (J (0 : Nat))) _
  rw [J_1sh _ (by omega)]
  have rr := F0.1
  refine (c_addHouse_20 hT.2.2.1 hT.2.2.2.1 hT.1 hH (f := fun S => sm (hL B) (cl (bH B).length S)) (g := fun S => sm (hW B) (cl (bH B).length S)) rhFU M0 0 (Nat.zero_le _) (by rw [Nat.sub_zero]; exact Nat.lt_of_le_of_lt hP7 (by omega)) (by rw [rr]; exact hT.2.2.2.2.2.2.2.2.2.2.2.1.2.1) (by rw [rr]; exact hT.2.2.2.2.2.2.2.2.2.2.2.1.2.2.1) j1 (fun S hS => ?_) (fun S hS => by omega)).mono (fun M' z => ?_)
  · rw [i0 (t + 2) (by omega) (by omega), i0 (t + 3) (by omega) (by omega)]; exact ks S hS
  obtain ⟨z1, z2, z3, z4⟩ := z
  have F1 : Fr [8, 9, 10, t, t + 2, t + 3] M M' := F0.trans (z1.sub (fun r hr => by simp only [List.mem_cons, List.not_mem_nil, or_false] at hr ⊢; omega))
  have o : ∀ a, ¬ (a = 8 ∨ a = 9 ∨ a = 10 ∨ a = t ∨ a = t + 2 ∨ a = t + 3) → M'.1 a = M.1 a ∧ M'.2.1 a = M.2.1 a := fun a ha => F1.2 a (by simp only [List.mem_cons, List.not_mem_nil, or_false]; exact ha)
  have o2 : ∀ a, ¬ (a = t ∨ a = t + 2 ∨ a = t + 3) → M'.1 a = M0.1 a ∧ M'.2.1 a = M0.2.1 a := fun a ha => z1.2 a (by simp only [List.mem_cons, List.not_mem_nil, or_false]; exact ha)
  have it : ∀ k, k ≠ 1 → M'.1 t k = M.1 t k := fun k hk => by rw [z2 k hk, i0 t (by omega) (by omega)]
  have lA : (bH B ++ [(nm, l, w, r)]).length = (bH B).length + 1 := by rw [List.length_append]; rfl
  have eH : bH (bR B, bH B ++ [(nm, l, w, r)], B.2.2) = bH B ++ [(nm, l, w, r)] := rfl
  refine ⟨F1, it 0 (by decide), z3, ⟨by rw [it 0 (by decide)]; exact k0, by rw [eH, lA]; exact z3, by rw [it 2 (by decide)]; exact k2, by rw [it 3 (by decide)]; exact k3, by rw [it 4 (by decide)]; exact k4⟩, ⟨kn1.eq (o 7 (by omega)).2, ?_⟩, ?_, ?_, ?_, ?_, ?_, ?_, ?_⟩
  · show CN M' 8 ((bH B ++ [(nm, l, w, r)]).map fun x => x.1)
    rw [List.map_append]
    have e8 : M'.2.1 8 = M0.2.1 8 := (o2 8 (by omega)).2
    refine CN.add (H := bHn B) kn2 (fun k hk => ?_) ?_ hl hc
    · rw [e8, hM0, si_2, si_2, sl_2, if_neg (by omega)]
    · rw [e8, hM0, si_2, si_2, sl_2, if_pos ⟨rfl, lH⟩]
  · rw [(o (t + 1) (by omega)).1]; exact kl
  · rw [eH, lA]
    have cg : ∀ (u : Bd → Nat → Nat) (v : Nat), (∀ h, u (bR B, bH B ++ [(nm, l, w, r)], B.2.2) h = if h = (bH B).length then v else u B h) → ∀ S, S < 2 ^ (bH B).length → sm (u (bR B, bH B ++ [(nm, l, w, r)], B.2.2)) (cl ((bH B).length + 1) S) = sm (u B) (cl (bH B).length S) ∧ sm (u (bR B, bH B ++ [(nm, l, w, r)], B.2.2)) (cl ((bH B).length + 1) (2 ^ (bH B).length + S)) = sm (u B) (cl (bH B).length S) + v := fun u v hu S hS => by
      have e : sm (u (bR B, bH B ++ [(nm, l, w, r)], B.2.2)) (cl (bH B).length S) = sm (u B) (cl (bH B).length S) := sm_congr (fun x hx => by rw [hu, if_neg (by have := (cl_mem.mp hx).1; omega)])
      rw [cl_lo hS, cl_hi hS, sm_app, e, sm_cons, sm_nil, hu, if_pos rfl]
      exact ⟨rfl, rfl⟩
    have gL := cg hL l (fun h => by unfold hL; rw [hX_add]; split <;> rfl)
    have gW := cg hW w (fun h => by unfold hW; rw [hX_add]; split <;> rfl)
    intro S hS
    rw [Nat.pow_succ] at hS
    by_cases c : S < 2 ^ (bH B).length
    · rw [(gL S c).1, (gW S c).1]; exact (z4 S c).1
    · obtain ⟨S', rfl⟩ : ∃ S', S = 2 ^ (bH B).length + S' := ⟨S - 2 ^ (bH B).length, by omega⟩
      have c : S' < 2 ^ (bH B).length := by omega
      rw [(gL S' c).2, (gW S' c).2]; exact (z4 S' c).2
  · rw [(o (t + 4) (by omega)).1, (o (t + 5) (by omega)).1]; exact kw
  · rw [eH, lA, (o2 9 (by omega)).1]
    intro h hh
    unfold hR
    rw [hX_add, hM0, si_1, if_neg (by omega), si_1]
    by_cases c : h = (bH B).length
    · rw [if_pos c, if_pos ⟨rfl, c⟩]
    · rw [if_neg c, if_neg (fun q => c q.2), sl_1]; exact kh h (by omega)
  · rw [(o2 10 (by omega)).1]
    intro a ha
    rw [hOn_add, hM0, si_1]
    show _ = J (ss (hOn B a ++ (if r = a then [(bH B).length] else [])) : Nat)
    by_cases c : a = r
    · rw [if_pos ⟨rfl, c⟩, if_pos c.symm, c]
    · rw [if_neg (fun q => c q.2), if_neg (fun q => c q.symm), List.append_nil, si_1, if_neg (by omega), sl_1]; exact kr a ha
  · exact kc.fr F1 (by simp only [List.mem_cons, List.not_mem_nil, or_false]; omega) (by simp only [List.mem_cons, List.not_mem_nil, or_false]; omega) (by simp only [List.mem_cons, List.not_mem_nil, or_false]; omega)
  · rw [(o 3 (by omega)).1]; exact kf
theorem c_h164 {M M9 : rhM} {B : Bd} {nm : List Nat} {l w r : Nat} {s5 : Ps} {xx : Rs} (hF : LF Γ M t) (hK : CK M t B) (hP : PW B) (X9 : CX M M9) (S9 : CS M9 bs s5) (eL : xx = (tSign bs 59 s5, (bR B, bH B ++ [(nm, l, w, r)], B.2.2))) (hpw : xx.1.2.1 = 0 → (bH B).length < 8) (hr5 : r < 5) (hn1 : nm.length ≤ 8) (hn2 : ∀ c, c ∈ nm → 97 ≤ c ∧ c ≤ 122) :
    wp (f_X4_readHouse_164 Γ M9 3 (jl (enc nm)) (J l) (J w) (J r)) (fun M' => Fr (LW t) M M' ∧ (∃ s', CS M' bs s' ∧ s'.2 = xx.1.2 ∧ (s'.2.1 = 0 → s' = xx.1)) ∧ CF M' t ∧ (xx.1.2.1 = 0 → CK M' t xx.2)) := by
  obtain ⟨hG, hT, ht, r11, r10, r3, r4, r5, r6⟩ := id hF
  have nB : ∀ r, r ≤ 7 → r ∉ [8, 9, 10, t, t + 2, t + 3] := fun r hr => by simp only [List.mem_cons, List.not_mem_nil, or_false]; omega
  have sB : ∀ r, r ∈ [8, 9, 10, t, t + 2, t + 3] → r ∈ LW t := fun r hr => by simp only [LW, List.mem_cons, List.not_mem_nil, or_false] at hr ⊢; omega
  rw [f_X4_readHouse_164, wp_ck_t (GKk3 hG)]
  show wp ((f_X4_takeSign Γ M9 3 (J 59)).bind _) _
  rw [wp_bind]
  refine (c_takeSign hG S9 (w := 59) (by decide)).mono (fun M10 a => ?_)
  have X10 := X9.trans a.1
  have K10 := hK.cx ht X10
  obtain ⟨-, hT10, -, q11, q10, q3, q4, q5, q6⟩ := hF.r X10.1.1
  have hSf : CS M10 bs xx.1 := by rw [eL]; exact a.2
  by_cases g : xx.1.2.1 = 0
  · have hlt := hpw g
    rw [wp_ite_t (by rw [fault_if hSf]; exact g), q10, wp_ck_t hT.1, q4, wp_ck_t (GKk8 hG), K10.1.2.1, wp_ck_t (by rw [J_toInt (by omega) (by omega), GKl8 hG]; omega), q5, wp_ck_t (GKk9 hG), wp_ck_t (by rw [J_toInt (by omega) (by omega), GKl9 hG]; omega), q6, wp_ck_t (GKk10 hG), wp_ck_t (by rw [J_toInt (by omega) (by omega), GKl10 hG]; omega), J_clamp (by omega) (by omega), J_clamp (by omega) (by omega), Int.toNat_natCast, Int.toNat_natCast]
    have i10 : (rhsi (rhsl M10 8 (bH B).length (jl (enc nm))) 9 (bH B).length (J r)).1 10 r = J (ss (hOn B r)) := by rw [si_1, if_neg (by omega), sl_1]; exact K10.2.2.2.2.2.2.1 _ hr5
    have it1 : (rhsi (rhsl M10 8 (bH B).length (jl (enc nm))) 9 (bH B).length (J r)).1 t 1 = J (bH B).length := by rw [si_1, if_neg (by omega), sl_1]; exact K10.1.2.1
    show wp ((f_X9_addHouse Γ (rhsi (rhsi (rhsl M10 8 (bH B).length (jl (enc nm))) 9 (bH B).length (J r)) 10 r ((rhsi (rhsl M10 8 (bH B).length (jl (enc nm))) 9 (bH B).length (J r)).1 10 r ||| ((1 : Int32) <<< ((rhsi (rhsl M10 8 (bH B).length (jl (enc nm))) 9 (bH B).length (J r)).1 t 1 &&& 31)))) t (J l) (J w)).bind _) _
    rw [i10, it1, J_1sh _ (by omega), J_or, ← ss_snoc, wp_bind]
    refine (c_addHouse hT10 ht hP K10 hn1 hn2 hlt hr5 rfl).mono (fun M11 b => (wp_some _ _).mpr ?_)
    obtain ⟨b1, b2, b3, b4⟩ := b
    have S11 : CS M11 bs xx.1 := CS.e7 (W := [8, 9, 10, t, t + 2, t + 3]) ht hSf b1 (nB 2 (by decide)) (nB 3 (by decide)) (nB 4 (by decide)) (nB 5 (by decide))
    refine ⟨(LW.cx X10).trans (b1.sub sB), ⟨_, S11, rfl, fun _ => rfl⟩, ⟨_, _, hP.1.1, hlt, by rw [b2]; exact K10.1.1, b3⟩, fun _ => ?_⟩
    rw [eL]; exact b4
  · rw [wp_ite_f (by rw [fault_if hSf]; exact g), wp_some]
    exact ⟨LW.cx X10, ⟨_, hSf, rfl, fun _ => rfl⟩, K10.cf hP, fun q => absurd q g⟩
theorem c_h137 {M M8 : rhM} {B : Bd} {nm : List Nat} {l w r : Nat} {s8 : Ps} {xx : Rs} (hF : LF Γ M t) (hK : CK M t B) (hP : PW B) (X8 : CX M M8) (S8 : CS M8 bs s8) (eL : xx = (tSign bs 59 (if qs bs s8.1 = 59 ∧ bLen B r < bOn B r + l then bla 6 (qp bs s8.1) s8 else s8), (bR B, bH B ++ [(nm, l, w, r)], B.2.2))) (hpw : xx.1.2.1 = 0 → (bH B).length < 8) (hr5 : r < 5) (hn1 : nm.length ≤ 8) (hn2 : ∀ c, c ∈ nm → 97 ≤ c ∧ c ≤ 122)
    (v : Int32) (hv : s8.2.1 = 0 → ((v = 0) = (bLen B r < bOn B r + l))) : wp (f_X4_readHouse_137 Γ M8 3 (jl (enc nm)) (J l) (J w) (J r) (J (qp bs s8.1)) v) (fun M' => Fr (LW t) M M' ∧ (∃ s', CS M' bs s' ∧ s'.2 = xx.1.2 ∧ (s'.2.1 = 0 → s' = xx.1)) ∧ CF M' t ∧ (xx.1.2.1 = 0 → CK M' t xx.2)) := by
  have hG := hF.1
  have hz := qs_rng S8.1.1.2.2.2.2.2.2 s8.1
  rw [f_X4_readHouse_137, wp_ck_t (GKk3 hG), S8.2.2.1, wp_ck_t (GKk4 hG), S8.1.2.2.2.2.2.1]
  by_cases c1 : qs bs s8.1 = 59
  · rw [wp_ite_t (by rw [c1]; rfl)]
    by_cases c2 : v = 0
    · rw [wp_ite_t c2]
      show wp ((f_X4_blame Γ M8 3 (J (6 : Nat)) (J (qp bs s8.1))).bind _) _
      rw [wp_bind]
      refine (c_blame hG S8 (k := 6) (by decide)).mono (fun M9 a => ?_)
      refine c_h164 hF hK hP (X8.trans a.1) ?_ eL hpw hr5 hn1 hn2
      by_cases c3 : s8.2.1 = 0
      · rw [if_pos ⟨c1, by rw [← hv c3]; exact c2⟩]; exact a.2
      · have a2 := a.2
        rw [bla_st c3] at a2
        split
        · rw [bla_st c3]; exact a2
        · exact a2
    · rw [wp_ite_f c2]
      refine c_h164 hF hK hP X8 ?_ eL hpw hr5 hn1 hn2
      by_cases c3 : s8.2.1 = 0
      · rw [if_neg (fun q => c2 (by rw [hv c3]; exact q.2))]; exact S8
      · split
        · rw [bla_st c3]; exact S8
        · exact S8
  · rw [wp_ite_f (by rw [show (59 : Int32) = J 59 from rfl, J_eq (by omega) (by omega) (by omega) (by omega)]; exact c1)]
    refine c_h164 hF hK hP X8 ?_ eL hpw hr5 hn1 hn2
    rw [if_neg (fun q => c1 q.1)]; exact S8
theorem c_hroom {M M8 : rhM} {B : Bd} {nm : List Nat} {l w r : Nat} {s8 : Ps} {xx : Rs} (hF : LF Γ M t) (hK : CK M t B) (hP : PW B) (X8 : CX M M8) (S8 : CS M8 bs s8) (eL : xx = (tSign bs 59 (if qs bs s8.1 = 59 ∧ bLen B r < bOn B r + l then bla 6 (qp bs s8.1) s8 else s8), (bR B, bH B ++ [(nm, l, w, r)], B.2.2))) (hpw : xx.1.2.1 = 0 → (bH B).length < 8) (hr5 : r < 5) (hn1 : nm.length ≤ 8) (hn2 : ∀ c, c ∈ nm → 97 ≤ c ∧ c ≤ 122)
    (l99 : l ≤ 9999) (hlt : s8.2.1 = 0 → r < (bR B).length) : wp (rhck (Γ.2.2.1 (M8.2.2 3 2) = 9) <| rhck (Γ.2.2.1 (M8.2.2 3 6) = 15) <| rhck (0 ≤ (J r).toInt ∧ (J r).toInt < (Γ.2.2.2 (M8.2.2 3 6) : Nat)) <| rhck (Γ.2.2.1 (M8.2.2 3 10) = 10) <| (f_X9_roomBeside Γ M8 (M8.2.2 3 10) (J r) (M8.1 (M8.2.2 3 6) (J r).toNatClampNeg)).bind fun r27 => if r27 < J l then (f_X4_readHouse_137 Γ M8 3 (jl (enc nm)) (J l) (J w) (J r) (M8.1 (M8.2.2 3 2) 5) 0) else f_X4_readHouse_137 Γ M8 3 (jl (enc nm)) (J l) (J w) (J r) (M8.1 (M8.2.2 3 2) 5) 1) (fun M' => Fr (LW t) M M' ∧ (∃ s', CS M' bs s' ∧ s'.2 = xx.1.2 ∧ (s'.2.1 = 0 → s' = xx.1)) ∧ CF M' t ∧ (xx.1.2.1 = 0 → CK M' t xx.2)) := by
  obtain ⟨hG, hT, ht, r11, r10, r3, r4, r5, r6⟩ := id hF
  have K8 := hK.cx ht X8
  obtain ⟨-, hT8, -, q11, q10, q3, q4, q5, q6⟩ := hF.r X8.1.1
  have ssl : ss (hOn B r) < 2 ^ (bH B).length := ss_lt (fun x hx => hOn_lt hx)
  have hP8 : 2 ^ (bH B).length ≤ 2 ^ 8 := Nat.pow_le_pow_right (by decide) hP.1.2.1
  have hP8 : 2 ^ (bH B).length ≤ 256 := hP8
  rw [S8.2.2.1, wp_ck_t (GKk4 hG), q6, wp_ck_t (GKk10 hG), wp_ck_t (by rw [J_toInt (by omega) (by omega), GKl10 hG]; omega), q10, wp_ck_t hT.1, J_clamp (by omega) (by omega), Int.toNat_natCast, K8.2.2.2.2.2.2.1 _ hr5, c_place S8, wp_bind, f_X9_roomBeside, wp_ck_t hT.1, hT8.2.2.2.2.2.2.2.2.2.2.2.1.1, wp_ck_t hT.2.1.1, wp_ck_t (by rw [J_toInt (by omega) (by omega), hT.2.1.2]; omega), hT8.2.2.2.2.2.2.2.2.2.2.2.1.2.1, wp_ck_t hT.2.2.1.1, wp_ck_t (by rw [J_toInt (by omega) (by omega), hT.2.2.1.2]; omega), J_clamp (by omega) (by omega), J_clamp (by omega) (by omega), Int.toNat_natCast, Int.toNat_natCast, wp_some, (K8.2.2.2.1 _ ssl).1, hOn_cl, ← bOn_hOn]
  have h0 := c_h137 hF hK hP X8 S8 eL hpw hr5 hn1 hn2 0
  have h1 := c_h137 hF hK hP X8 S8 eL hpw hr5 hn1 hn2 1
  by_cases c3 : s8.2.1 = 0
  · have lt5 := hlt c3
    have hbo : bOn B r ≤ 72 := by
      rw [bOn_hOn]
      have h2 := sm_le (g := hL B) (c := 9) (l := hOn B r) (fun x hx => (hP.2.2.1 x (hOn_lt hx)).2.1)
      have h3 : (hOn B r).length ≤ (bH B).length := by
        unfold hOn
        have := List.length_filter_le (fun h => decide (hR B h = r)) (List.range (bH B).length)
        rw [List.length_range] at this; exact this
      have := hP.1.2.1
      omega
    have hbl := (hP.2.1 _ lt5).2
    rw [K8.2.2.1 _ lt5, J_sub]
    by_cases c4 : bLen B r < bOn B r + l
    · rw [wp_ite_t (by rw [J_lt (by omega) (by omega) (by omega) (by omega)]; omega)]
      exact h0 (fun _ => propext ⟨fun _ => c4, fun _ => rfl⟩)
    · rw [wp_ite_f (by rw [J_lt (by omega) (by omega) (by omega) (by omega)]; omega)]
      exact h1 (fun _ => propext ⟨fun q => absurd q (by decide), fun q => absurd q c4⟩)
  · generalize M8.1 (t + 1) r - J (bOn B r) = q
    by_cases c4 : q < J l
    · rw [wp_ite_t c4]; exact h0 (fun q => absurd q c3)
    · rw [wp_ite_f c4]; exact h1 (fun q => absurd q c3)
set_option maxHeartbeats 4000000 in
theorem c_readHouse : LN Γ t bs (f_X4_readHouse) (lHouse bs) := by
  intro M s B hF hS hg hK hP
  obtain ⟨hG, hT, ht, r11, r10, r3, r4, r5, r6⟩ := id hF
  have lR : (bRn B).length = (bR B).length := List.length_map _
  have lH : (bHn B).length = (bH B).length := List.length_map _
  have hH8 : (bHn B).length ≤ 8 := by rw [lH]; exact hP.1.2.1
  have hR5 : (bRn B).length ≤ 5 := by rw [lR]; exact hP.1.1
  have hpw := pw_house (bs := bs) (s := s) hP
  have eL : lHouse bs (s, B) = (tSign bs 59 (if qs bs (tTold bs (bRn B) (tWord bs 8 (tNum bs 1 99 (qp bs (tWord bs 7 (tNum bs 1 9 (qp bs (tWord bs 6 (tNew bs (bHn B) (advU bs (8 ≤ (bH B).length) s)).2).1) (tWord bs 6 (tNew bs (bHn B) (advU bs (8 ≤ (bH B).length) s)).2)).2).1) (tWord bs 7 (tNum bs 1 9 (qp bs (tWord bs 6 (tNew bs (bHn B) (advU bs (8 ≤ (bH B).length) s)).2).1) (tWord bs 6 (tNew bs (bHn B) (advU bs (8 ≤ (bH B).length) s)).2)).2)).2)).2.1 = 59 ∧ bLen B (tTold bs (bRn B) (tWord bs 8 (tNum bs 1 99 (qp bs (tWord bs 7 (tNum bs 1 9 (qp bs (tWord bs 6 (tNew bs (bHn B) (advU bs (8 ≤ (bH B).length) s)).2).1) (tWord bs 6 (tNew bs (bHn B) (advU bs (8 ≤ (bH B).length) s)).2)).2).1) (tWord bs 7 (tNum bs 1 9 (qp bs (tWord bs 6 (tNew bs (bHn B) (advU bs (8 ≤ (bH B).length) s)).2).1) (tWord bs 6 (tNew bs (bHn B) (advU bs (8 ≤ (bH B).length) s)).2)).2)).2)).1 < bOn B (tTold bs (bRn B) (tWord bs 8 (tNum bs 1 99 (qp bs (tWord bs 7 (tNum bs 1 9 (qp bs (tWord bs 6 (tNew bs (bHn B) (advU bs (8 ≤ (bH B).length) s)).2).1) (tWord bs 6 (tNew bs (bHn B) (advU bs (8 ≤ (bH B).length) s)).2)).2).1) (tWord bs 7 (tNum bs 1 9 (qp bs (tWord bs 6 (tNew bs (bHn B) (advU bs (8 ≤ (bH B).length) s)).2).1) (tWord bs 6 (tNew bs (bHn B) (advU bs (8 ≤ (bH B).length) s)).2)).2)).2)).1 + (tNum bs 1 9 (qp bs (tWord bs 6 (tNew bs (bHn B) (advU bs (8 ≤ (bH B).length) s)).2).1) (tWord bs 6 (tNew bs (bHn B) (advU bs (8 ≤ (bH B).length) s)).2)).1 then bla 6 (qp bs (tTold bs (bRn B) (tWord bs 8 (tNum bs 1 99 (qp bs (tWord bs 7 (tNum bs 1 9 (qp bs (tWord bs 6 (tNew bs (bHn B) (advU bs (8 ≤ (bH B).length) s)).2).1) (tWord bs 6 (tNew bs (bHn B) (advU bs (8 ≤ (bH B).length) s)).2)).2).1) (tWord bs 7 (tNum bs 1 9 (qp bs (tWord bs 6 (tNew bs (bHn B) (advU bs (8 ≤ (bH B).length) s)).2).1) (tWord bs 6 (tNew bs (bHn B) (advU bs (8 ≤ (bH B).length) s)).2)).2)).2)).2.1) (tTold bs (bRn B) (tWord bs 8 (tNum bs 1 99 (qp bs (tWord bs 7 (tNum bs 1 9 (qp bs (tWord bs 6 (tNew bs (bHn B) (advU bs (8 ≤ (bH B).length) s)).2).1) (tWord bs 6 (tNew bs (bHn B) (advU bs (8 ≤ (bH B).length) s)).2)).2).1) (tWord bs 7 (tNum bs 1 9 (qp bs (tWord bs 6 (tNew bs (bHn B) (advU bs (8 ≤ (bH B).length) s)).2).1) (tWord bs 6 (tNew bs (bHn B) (advU bs (8 ≤ (bH B).length) s)).2)).2)).2)).2 else (tTold bs (bRn B) (tWord bs 8 (tNum bs 1 99 (qp bs (tWord bs 7 (tNum bs 1 9 (qp bs (tWord bs 6 (tNew bs (bHn B) (advU bs (8 ≤ (bH B).length) s)).2).1) (tWord bs 6 (tNew bs (bHn B) (advU bs (8 ≤ (bH B).length) s)).2)).2).1) (tWord bs 7 (tNum bs 1 9 (qp bs (tWord bs 6 (tNew bs (bHn B) (advU bs (8 ≤ (bH B).length) s)).2).1) (tWord bs 6 (tNew bs (bHn B) (advU bs (8 ≤ (bH B).length) s)).2)).2)).2)).2), (bR B, bH B ++ [((tNew bs (bHn B) (advU bs (8 ≤ (bH B).length) s)).1, (tNum bs 1 9 (qp bs (tWord bs 6 (tNew bs (bHn B) (advU bs (8 ≤ (bH B).length) s)).2).1) (tWord bs 6 (tNew bs (bHn B) (advU bs (8 ≤ (bH B).length) s)).2)).1, (tNum bs 1 99 (qp bs (tWord bs 7 (tNum bs 1 9 (qp bs (tWord bs 6 (tNew bs (bHn B) (advU bs (8 ≤ (bH B).length) s)).2).1) (tWord bs 6 (tNew bs (bHn B) (advU bs (8 ≤ (bH B).length) s)).2)).2).1) (tWord bs 7 (tNum bs 1 9 (qp bs (tWord bs 6 (tNew bs (bHn B) (advU bs (8 ≤ (bH B).length) s)).2).1) (tWord bs 6 (tNew bs (bHn B) (advU bs (8 ≤ (bH B).length) s)).2)).2)).1, (tTold bs (bRn B) (tWord bs 8 (tNum bs 1 99 (qp bs (tWord bs 7 (tNum bs 1 9 (qp bs (tWord bs 6 (tNew bs (bHn B) (advU bs (8 ≤ (bH B).length) s)).2).1) (tWord bs 6 (tNew bs (bHn B) (advU bs (8 ≤ (bH B).length) s)).2)).2).1) (tWord bs 7 (tNum bs 1 9 (qp bs (tWord bs 6 (tNew bs (bHn B) (advU bs (8 ≤ (bH B).length) s)).2).1) (tWord bs 6 (tNew bs (bHn B) (advU bs (8 ≤ (bH B).length) s)).2)).2)).2)).1)], B.2.2)) := rfl
  generalize lHouse bs (s, B) = xx at *
  have main : ∀ v : Int32, v = (if 8 ≤ (bH B).length then 1 else 0) → wp (f_X4_readHouse_18 Γ M 3 3 v) (fun M' => Fr (LW t) M M' ∧ (∃ s', CS M' bs s' ∧ s'.2 = xx.1.2 ∧ (s'.2.1 = 0 → s' = xx.1)) ∧ CF M' t ∧ (xx.1.2.1 = 0 → CK M' t xx.2)) := fun v hv => by
    rw [f_X4_readHouse_18, wp_ck_t (GKk3 hG), wp_bind]
    refine (c_advU hG hS hv).mono (fun M1 z => ?_)
    have K1 := hK.cx ht z.1
    obtain ⟨-, -, -, q11, q10, q3, q4, q5, q6⟩ := hF.r z.1.1.1
    rw [wp_ck_t (GKk3 hG), q10, wp_ck_t hT.1, q4, K1.1.2.1, ← lH, wp_bind]
    refine (c_takeNew hG z.2 (GKk8 hG) (GKl8 hG) hH8 (by decide) K1.2.1.2).mono (fun n y => ?_)
    obtain ⟨⟨y1, y2, y3⟩, y4, y5⟩ := y
    have X2 := z.1.trans y4
    generalize tNew bs (bHn B) (advU bs (8 ≤ (bH B).length) s) = n2 at *
    show wp ((f_X4_takeWord Γ n.2 3 (J 6)).bind _) _
    rw [wp_bind]
    refine (c_takeWord hG y5 (w := 6) (by decide)).mono (fun M3 x => ?_)
    have X3 := X2.trans x.1
    generalize tWord bs 6 n2.2 = s3 at *
    rw [x.2.2.2.1, wp_ck_t (GKk4 hG), c_place x.2]
    show wp ((f_X4_takeNumber Γ M3 3 (J (1 : Nat)) (J (9 : Nat)) (J (qp bs s3.1))).bind _) _
    rw [wp_bind]
    refine (c_takeNumber hG x.2 (a := 1) (b := 9) (p := qp bs s3.1) (by decide) (by decide)).mono (fun l w => ?_)
    have X4 := X3.trans w.2.1
    have l99 := tNum_le (bs := bs) (s := s3) (a := 1) (b := 9) (p := qp bs s3.1) (by decide)
    generalize tNum bs 1 9 (qp bs s3.1) s3 = l2 at *
    show wp ((f_X4_takeWord Γ l.2 3 (J 7)).bind _) _
    rw [wp_bind]
    refine (c_takeWord hG w.2.2 (w := 7) (by decide)).mono (fun M5 u => ?_)
    have X5 := X4.trans u.1
    generalize tWord bs 7 l2.2 = s5 at *
    rw [u.2.2.2.1, wp_ck_t (GKk4 hG), c_place u.2]
    show wp ((f_X4_takeNumber Γ M5 3 (J (1 : Nat)) (J (99 : Nat)) (J (qp bs s5.1))).bind _) _
    rw [wp_bind]
    refine (c_takeNumber hG u.2 (a := 1) (b := 99) (p := qp bs s5.1) (by decide) (by decide)).mono (fun ww p => ?_)
    have X6 := X5.trans p.2.1
    generalize tNum bs 1 99 (qp bs s5.1) s5 = w2 at *
    show wp ((f_X4_takeWord Γ ww.2 3 (J 8)).bind _) _
    rw [wp_bind]
    refine (c_takeWord hG p.2.2 (w := 8) (by decide)).mono (fun M7 v => ?_)
    have X7 := X6.trans v.1
    have K7 := hK.cx ht X7
    generalize tWord bs 8 w2.2 = s7 at *
    obtain ⟨-, -, -, q11, q10, q3, q4, q5, q6⟩ := hF.r X7.1.1
    rw [q10, wp_ck_t hT.1, q3, K7.1.1, ← lR, wp_bind]
    refine (c_takeTold hG v.2 (GKk7 hG) (GKl7 hG) hR5 (by decide) K7.2.1.1).mono (fun rr e => ?_)
    have X8 := X7.trans e.2.1
    have lr := tTold_lt (bs := bs) (H := bRn B) (s := s7)
    have lg : (tTold bs (bRn B) s7).2.2.1 = 0 → (tTold bs (bRn B) s7).1 < (bR B).length := fun q => by
      have := tTold_good q
      rw [this.2.2.2.1]
      show (bRn B).idxOf _ < _
      omega
    generalize tTold bs (bRn B) s7 = r2 at *
    obtain ⟨e1, e2, e3⟩ := e
    rw [y1, w.1, p.1, e1]
    exact c_hroom hF hK hP X8 e3 eL (fun q => (hpw q).2) (by omega) y2 y3 l99 lg
  rw [f_X4_readHouse, wp_ck_t (GKk3 hG), r10, wp_ck_t hT.1, hK.1.2.1]
  by_cases c : 8 ≤ (bH B).length
  · have hb8 := hP.1.2.1
    rw [wp_ite_f (by rw [show (8 : Int32) = J 8 from rfl, J_lt (by omega) (by omega) (by omega) (by omega)]; omega)]; exact main 1 (by rw [if_pos c])
  · rw [wp_ite_t (by rw [show (8 : Int32) = J 8 from rfl, J_lt (by omega) (by omega) (by omega) (by omega)]; omega)]; exact main 0 (by rw [if_neg c])
end
