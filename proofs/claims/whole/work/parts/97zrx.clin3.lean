section
variable {Γ : rhG} {t : Nat} {bs : List Int32}
theorem c_isTold {M : rhM} (hT : TSh Γ M t) {B : Bd} (hK : CK M t B) {a b : Nat} (ha : a < 8) (hb : b < 8) : f_X9_isTold Γ M t (J a) (J b) = some (bf (bIs B a b)) := by
  have e := (hK.2.2.2.2.1 a b ha hb).2
  have ix : J a * 8 + J b = J ((8 * a + b : Nat) : Int) := by rw [show (8 : Int32) = J 8 from rfl, J_mul, J_add]; congr 1; omega
  rw [f_X9_isTold, rhck_t hT.1, hT.2.2.2.2.2.2.2.2.2.2.2.1.2.2.2.2.1, rhck_t hT.2.2.2.2.2.1.1, ix, rhck_t (by rw [J_toInt (by omega) (by omega), hT.2.2.2.2.2.1.2]; omega), J_clamp (by omega) (by omega), Int.toNat_natCast, e]
  unfold bf
  cases bIs B a b <;> rfl
theorem c_addBeside {M : rhM} (hT : TSh Γ M t) (ht : t = 11 ∨ t = 22) {B : Bd} (hK : CK M t B) {a b : Nat} {w : Int} (ha : a < 8) (hb : b < 8) (hn : bIs B a b = false) (h20 : (bB B).length < 20) : wp (f_X9_addBeside Γ M t (J a) (J b) (J w)) (fun M' => Fr [t, t + 4, t + 5] M M' ∧ (∀ k, k ≠ 4 → M'.1 t k = M.1 t k) ∧ CK M' t (bR B, bH B, bB B ++ [(a, b, w)], B.2.2.2)) := by
  have ix : ∀ x y : Nat, J x * 8 + J y = J ((8 * x + y : Nat) : Int) := fun x y => by rw [show (8 : Int32) = J 8 from rfl, J_mul, J_add]; congr 1; omega
  have k5 := hT.2.2.2.2.2.1
  have k4 := hT.2.2.2.2.1
  rw [f_X9_addBeside, wp_ck_t hT.1, hT.2.2.2.2.2.2.2.2.2.2.2.1.2.2.2.2.1, hT.2.2.2.2.2.2.2.2.2.2.2.1.2.2.2.1, wp_ck_t k5.1, ix, ix, wp_ck_t (by rw [J_toInt (by omega) (by omega), k5.2]; omega), wp_ck_t (by rw [J_toInt (by omega) (by omega), k5.2]; omega), wp_ck_t k4.1, wp_ck_t (by rw [J_toInt (by omega) (by omega), k4.2]; omega), wp_ck_t (by rw [J_toInt (by omega) (by omega), k4.2]; omega), J_clamp (by omega) (by omega), J_clamp (by omega) (by omega), Int.toNat_natCast, Int.toNat_natCast, wp_some]
  have e4 : ∀ M0 : rhM, (rhsi (rhsi (rhsi (rhsi M0 (t + 5) (8 * a + b) (vp_nar .boolean 1)) (t + 5) (8 * b + a) (vp_nar .boolean 1)) (t + 4) (8 * a + b) (J w)) (t + 4) (8 * b + a) (J w)).1 t 4 = M0.1 t 4 := fun M0 => by
    rw [si_1, if_neg (by omega), si_1, if_neg (by omega), si_1, if_neg (by omega), si_1, if_neg (by omega)]
  show _ ∧ _ ∧ _
  rw [e4]
  have hv : vp_nar .boolean 1 = (1 : Int32) := by decide
  rw [hv, hK.1.2.2.2.2, show (1 : Int32) = J 1 from rfl, J_add, J_suc]
  have F : Fr [t, t + 4, t + 5] M (rhsi (rhsi (rhsi (rhsi (rhsi M (t + 5) (8 * a + b) (J 1)) (t + 5) (8 * b + a) (J 1)) (t + 4) (8 * a + b) (J w)) (t + 4) (8 * b + a) (J w)) t 4 (J ((bB B).length + 1 : Nat))) := (((((Fr.refl _ _).si (by simp) _ _).si (by simp) _ _).si (by simp) _ _).si (by simp) _ _).si (by simp) _ _
  generalize hM6 : rhsi (rhsi (rhsi (rhsi (rhsi M (t + 5) (8 * a + b) (J 1)) (t + 5) (8 * b + a) (J 1)) (t + 4) (8 * a + b) (J w)) (t + 4) (8 * b + a) (J w)) t 4 (J ((bB B).length + 1 : Nat)) = M6 at *
  have it : ∀ k, k ≠ 4 → M6.1 t k = M.1 t k := fun k hk => by
    rw [← hM6, si_1, if_neg (fun q => hk q.2), si_1, if_neg (by omega), si_1, if_neg (by omega), si_1, if_neg (by omega), si_1, if_neg (by omega)]
  have o : ∀ r, ¬ (r = t ∨ r = t + 4 ∨ r = t + 5) → M6.1 r = M.1 r ∧ M6.2.1 r = M.2.1 r := fun r hr => F.2 r (by simp only [List.mem_cons, List.not_mem_nil, or_false]; exact hr)
  refine ⟨F, it, ?_⟩
  obtain ⟨⟨k0, k1, k2, k3, k4⟩, ⟨kn1, kn2⟩, kl, ks, kw, kh, kr, kc, kf⟩ := hK
  refine ⟨⟨by rw [it 0 (by decide)]; exact k0, by rw [it 1 (by decide)]; exact k1, by rw [it 2 (by decide)]; exact k2, by rw [it 3 (by decide)]; exact k3, ?_⟩, ⟨kn1.eq (o 7 (by omega)).2, kn2.eq (o 8 (by omega)).2⟩, ?_, ?_, ?_, ?_, ?_, ?_, ?_⟩
  · show M6.1 t 4 = J ((bB B ++ [(a, b, w)]).length : Nat)
    rw [← hM6, si_1, if_pos ⟨rfl, rfl⟩, List.length_append, List.length_singleton]
  · rw [(o (t + 1) (by omega)).1]; exact kl
  · rw [(o (t + 2) (by omega)).1, (o (t + 3) (by omega)).1]; exact ks
  · intro x y hx hy
    have e := bW_add B (a, b, w) x y hn
    rw [e.1, e.2, ← hM6]
    by_cases c : isPr x y (a, b, w) = true
    · rw [if_pos c, if_pos c]
      unfold isPr at c; rw [decide_eq_true_eq] at c
      have c : (a = x ∧ b = y) ∨ (a = y ∧ b = x) := c
      refine ⟨?_, ?_⟩
      · rw [si_1, if_neg (by omega), si_1]
        rcases c with c | c
        · by_cases c2 : 8 * x + y = 8 * b + a
          · rw [if_pos ⟨rfl, c2⟩]
          · rw [if_neg (fun q => c2 q.2), si_1, if_pos ⟨rfl, by omega⟩]
        · rw [if_pos ⟨rfl, by omega⟩]
      · rw [si_1, if_neg (by omega), si_1, if_neg (by omega), si_1, if_neg (by omega), si_1]
        rcases c with c | c
        · by_cases c2 : 8 * x + y = 8 * b + a
          · rw [if_pos ⟨rfl, c2⟩]; rfl
          · rw [if_neg (fun q => c2 q.2), si_1, if_pos ⟨rfl, by omega⟩]; rfl
        · rw [if_pos ⟨rfl, by omega⟩]; rfl
    · rw [if_neg c, if_neg c]
      unfold isPr at c; rw [decide_eq_true_eq] at c
      have c : ¬ ((a = x ∧ b = y) ∨ (a = y ∧ b = x)) := c
      refine ⟨?_, ?_⟩
      · rw [si_1, if_neg (by omega), si_1, if_neg (by omega), si_1, if_neg (by omega), si_1, if_neg (by omega), si_1, if_neg (by omega)]; exact (kw x y hx hy).1
      · rw [si_1, if_neg (by omega), si_1, if_neg (by omega), si_1, if_neg (by omega), si_1, if_neg (by omega), si_1, if_neg (by omega)]; exact (kw x y hx hy).2
  · rw [(o 9 (by omega)).1]; exact kh
  · rw [(o 10 (by omega)).1]; exact kr
  · exact kc.fr F (by simp only [List.mem_cons, List.not_mem_nil, or_false]; omega) (by simp only [List.mem_cons, List.not_mem_nil, or_false]; omega) (by simp only [List.mem_cons, List.not_mem_nil, or_false]; omega)
  · rw [(o 3 (by omega)).1]; exact kf
theorem c_readBeside : LN Γ t bs (f_X4_readBeside) (lBeside bs) := by
  intro M s B hF hS hg hK hP
  obtain ⟨hG, hT, ht, r11, r10, r3, r4, r5, r6⟩ := id hF
  have nB : ∀ r, r ≤ 10 → r ∉ [t, t + 4, t + 5] := fun r hr => by simp only [List.mem_cons, List.not_mem_nil, or_false]; omega
  have sB : ∀ r, r ∈ [t, t + 4, t + 5] → r ∈ LW t := fun r hr => by simp only [LW, List.mem_cons, List.not_mem_nil, or_false] at hr ⊢; omega
  have hbg := bs_good (bs := bs) (s := s) (B := B)
  generalize hxx : lBeside bs (s, B) = xx at *
  have lH : (bHn B).length = (bH B).length := List.length_map _
  have hH8 : (bHn B).length ≤ 8 := by rw [lH]; exact hP.1.2.1
  have main : ∀ v : Int32, v = (if 20 ≤ (bB B).length then 1 else 0) → wp (f_X4_readBeside_18 Γ M 3 3 v) (fun M' => Fr (LW t) M M' ∧ (∃ s', CS M' bs s' ∧ s'.2 = xx.1.2 ∧ (s'.2.1 = 0 → s' = xx.1)) ∧ CF M' t ∧ (xx.1.2.1 = 0 → CK M' t xx.2)) := fun v hv => by
    rw [f_X4_readBeside_18, wp_ck_t (GKk3 hG), wp_bind]
    refine (c_advU hG hS hv).mono (fun M1 z => ?_)
    have K1 := hK.cx ht z.1
    obtain ⟨-, -, -, q11, q10, q3, q4, q5, q6⟩ := hF.r z.1.1.1
    rw [wp_ck_t (GKk3 hG), q10, wp_ck_t hT.1, q4, K1.1.2.1, ← lH, wp_bind]
    refine (c_takeTold hG z.2 (GKk8 hG) (GKl8 hG) hH8 (by decide) K1.2.1.2).mono (fun a y => ?_)
    have X2 := z.1.trans y.2.1
    have K2 := hK.cx ht X2
    obtain ⟨-, -, -, q11, q10, q3, q4, q5, q6⟩ := hF.r X2.1.1
    have la := tTold_lt (bs := bs) (H := bHn B) (s := advU bs (20 ≤ (bB B).length) s)
    rw [y.2.2.2.2.1, wp_ck_t (GKk4 hG), c_place y.2.2, q10, wp_ck_t hT.1, q4, K2.1.2.1, ← lH, wp_bind]
    refine (c_takeTold hG y.2.2 (GKk8 hG) (GKl8 hG) hH8 (by decide) K2.2.1.2).mono (fun b x => ?_)
    have X3 := X2.trans x.2.1
    have K3 := hK.cx ht X3
    obtain ⟨-, hT3, -, q11, q10, q3, q4, q5, q6⟩ := hF.r X3.1.1
    have lb := tTold_lt (bs := bs) (H := bHn B) (s := (tTold bs (bHn B) (advU bs (20 ≤ (bB B).length) s)).2)
    rw [y.1, x.1]
    have eL : xx = (tSign bs 59 (tSNum bs 99 (tWord bs 9 (if (tTold bs (bHn B) (advU bs (20 ≤ (bB B).length) s)).1 = (tTold bs (bHn B) (tTold bs (bHn B) (advU bs (20 ≤ (bB B).length) s)).2).1 ∨ bIs B (tTold bs (bHn B) (advU bs (20 ≤ (bB B).length) s)).1 (tTold bs (bHn B) (tTold bs (bHn B) (advU bs (20 ≤ (bB B).length) s)).2).1 = true then bla 3 (qp bs (tTold bs (bHn B) (advU bs (20 ≤ (bB B).length) s)).2.1) (tTold bs (bHn B) (tTold bs (bHn B) (advU bs (20 ≤ (bB B).length) s)).2).2 else (tTold bs (bHn B) (tTold bs (bHn B) (advU bs (20 ≤ (bB B).length) s)).2).2))).2, (bR B, bH B, bB B ++ [((tTold bs (bHn B) (advU bs (20 ≤ (bB B).length) s)).1, (tTold bs (bHn B) (tTold bs (bHn B) (advU bs (20 ≤ (bB B).length) s)).2).1, (tSNum bs 99 (tWord bs 9 (if (tTold bs (bHn B) (advU bs (20 ≤ (bB B).length) s)).1 = (tTold bs (bHn B) (tTold bs (bHn B) (advU bs (20 ≤ (bB B).length) s)).2).1 ∨ bIs B (tTold bs (bHn B) (advU bs (20 ≤ (bB B).length) s)).1 (tTold bs (bHn B) (tTold bs (bHn B) (advU bs (20 ≤ (bB B).length) s)).2).1 = true then bla 3 (qp bs (tTold bs (bHn B) (advU bs (20 ≤ (bB B).length) s)).2.1) (tTold bs (bHn B) (tTold bs (bHn B) (advU bs (20 ≤ (bB B).length) s)).2).2 else (tTold bs (bHn B) (tTold bs (bHn B) (advU bs (20 ≤ (bB B).length) s)).2).2))).1)], B.2.2.2)) := hxx.symm
    clear hxx
    generalize tTold bs (bHn B) (tTold bs (bHn B) (advU bs (20 ≤ (bB B).length) s)).2 = b2 at *
    generalize tTold bs (bHn B) (advU bs (20 ≤ (bB B).length) s) = a2 at *
    have fin : ∀ (M4 : rhM) (s4 : Ps), CX M M4 → CS M4 bs s4 → s4 = (if a2.1 = b2.1 ∨ bIs B a2.1 b2.1 = true then bla 3 (qp bs a2.2.1) b2.2 else b2.2) → wp (f_X4_readBeside_84 Γ M4 3 (J a2.1) (J b2.1)) (fun M' => Fr (LW t) M M' ∧ (∃ s', CS M' bs s' ∧ s'.2 = xx.1.2 ∧ (s'.2.1 = 0 → s' = xx.1)) ∧ CF M' t ∧ (xx.1.2.1 = 0 → CK M' t xx.2)) := fun M4 s4 X4 S4 e4 => by
      rw [← e4] at eL
      rw [f_X4_readBeside_84, wp_ck_t (GKk3 hG)]
      show wp ((f_X4_takeWord Γ M4 3 (J 9)).bind _) _
      rw [wp_bind]
      refine (c_takeWord hG S4 (w := 9) (by decide)).mono (fun M5 w => ?_)
      show wp ((f_X4_takeSignedNumber Γ M5 3 (J (99 : Nat))).bind _) _
      rw [wp_bind]
      refine (c_takeSigned hG w.2 (b := 99) (by decide)).mono (fun n u => ?_)
      show wp ((f_X4_takeSign Γ n.2 3 (J 59)).bind _) _
      rw [wp_bind]
      refine (c_takeSign hG u.2.2 (w := 59) (by decide)).mono (fun M6 v => ?_)
      have X6 := X4.trans (w.1.trans (u.2.1.trans v.1))
      have K6 := hK.cx ht X6
      obtain ⟨-, hT6, -, q11, q10, q3, q4, q5, q6⟩ := hF.r X6.1.1
      have hS6 : CS M6 bs xx.1 := by rw [eL]; exact v.2
      by_cases g : xx.1.2.1 = 0
      · obtain ⟨h20, a', b', w', e', ha, hb, hab, hni, h1, h2⟩ := hbg g
        have e2 : xx.2 = (bR B, bH B, bB B ++ [(a2.1, b2.1, (tSNum bs 99 (tWord bs 9 s4)).1)], B.2.2.2) := by rw [eL]
        rw [e2] at e'
        have e3 : (a2.1, b2.1, (tSNum bs 99 (tWord bs 9 s4)).1) = (a', b', w') := by
          have := congrArg (fun q : Bd => q.2.2.1) e'
          have this : bB B ++ [(a2.1, b2.1, (tSNum bs 99 (tWord bs 9 s4)).1)] = bB B ++ [(a', b', w')] := this
          exact List.singleton_inj.mp (List.append_cancel_left this)
        have ea : a2.1 = a' := congrArg (fun q => q.1) e3
        have eb : b2.1 = b' := congrArg (fun q => q.2.1) e3
        rw [wp_ite_t (by rw [fault_if hS6]; exact g), q10, wp_ck_t hT.1, wp_bind, u.1]
        have hpw := hP.1.2.1
        refine (c_addBeside hT6 ht K6 (a := a2.1) (b := b2.1) (w := (tSNum bs 99 (tWord bs 9 s4)).1) (by omega) (by omega) (by rw [ea, eb]; exact hni) h20).mono (fun M7 p => (wp_some _ _).mpr ?_)
        obtain ⟨p1, p2, p3⟩ := p
        have S7 : CS M7 bs xx.1 := CS.e7 (W := [t, t + 4, t + 5]) ht hS6 p1 (nB 2 (by decide)) (nB 3 (by decide)) (nB 4 (by decide)) (nB 5 (by decide))
        refine ⟨(LW.cx X6).trans (p1.sub sB), ⟨_, S7, rfl, fun _ => rfl⟩, ⟨_, _, hP.1.1, hP.1.2.1, by rw [p2 0 (by decide)]; exact K6.1.1, by rw [p2 1 (by decide)]; exact K6.1.2.1⟩, fun _ => ?_⟩
        rw [e2]; exact p3
      · rw [wp_ite_f (by rw [fault_if hS6]; exact g), wp_some]
        exact ⟨LW.cx X6, ⟨_, hS6, rfl, fun _ => rfl⟩, K6.cf hP, fun q => absurd q g⟩
    have bad : (a2.1 = b2.1 ∨ bIs B a2.1 b2.1 = true) → wp (f_X4_readBeside_78 (f_X4_readBeside_84 Γ) Γ b.2 3 (J a2.1) (J (qp bs a2.2.1)) (J b2.1)) (fun M' => Fr (LW t) M M' ∧ (∃ s', CS M' bs s' ∧ s'.2 = xx.1.2 ∧ (s'.2.1 = 0 → s' = xx.1)) ∧ CF M' t ∧ (xx.1.2.1 = 0 → CK M' t xx.2)) := fun c => by
      rw [f_X4_readBeside_78, wp_ck_t (GKk3 hG)]
      show wp ((f_X4_blame Γ b.2 3 (J (3 : Nat)) (J (qp bs a2.2.1))).bind _) _
      rw [wp_bind]
      refine (c_blame hG x.2.2 (k := 3) (by decide)).mono (fun M4 w => ?_)
      exact fin M4 _ (X3.trans w.1) w.2 (by rw [if_pos c])
    have eab : (J a2.1 = J b2.1) = (a2.1 = b2.1) := by rw [show (J (a2.1 : Nat) = J (b2.1 : Nat)) = ((a2.1 : Int) = b2.1) by rw [J_eq (by omega) (by omega) (by omega) (by omega)]]; exact propext ⟨fun q => by omega, fun q => by omega⟩
    by_cases c : a2.1 = b2.1
    · rw [wp_ite_t (by rw [eab]; exact c)]; exact bad (Or.inl c)
    · rw [wp_ite_f (by rw [eab]; exact c), q10, wp_ck_t hT.1, wp_bind, c_isTold hT3 K3 (by omega) (by omega), wp_some]
      by_cases c2 : bIs B a2.1 b2.1 = true
      · rw [wp_ite_f (by rw [c2]; decide)]; exact bad (Or.inr c2)
      · rw [wp_ite_t (by have : bIs B a2.1 b2.1 = false := by simpa using c2
                         rw [this]; rfl)]
        exact fin b.2 _ X3 x.2.2 (by rw [if_neg (fun q => q.elim c c2)])
  rw [f_X4_readBeside, wp_ck_t (GKk3 hG), r10, wp_ck_t hT.1, hK.1.2.2.2.2]
  by_cases c : 20 ≤ (bB B).length
  · have hb20 := hP.1.2.2
    rw [wp_ite_f (by rw [show (20 : Int32) = J 20 from rfl, J_lt (by omega) (by omega) (by omega) (by omega)]; omega)]; exact main 1 (by rw [if_pos c])
  · rw [wp_ite_t (by rw [show (20 : Int32) = J 20 from rfl, J_lt (by omega) (by omega) (by omega) (by omega)]; omega)]; exact main 0 (by rw [if_neg c])
end
