/-! THE CLASS'S READER: the town as told so far, and lines -/
theorem sum_at (d : List Nat × Nat × Nat × Nat) (r : Nat) : ∀ l : List (List Nat × Nat × Nat × Nat), ((l.filter fun x => decide (x.2.2.2 = r)).map fun x => x.2.1).sum = sm (fun h => (l.getD h d).2.1) ((List.range l.length).filter fun h => decide ((l.getD h d).2.2.2 = r))
  | [] => rfl
  | x :: l => by
    have ih := sum_at d r l
    have e0 : ∀ (f : Nat → Bool), (List.range (l.length + 1)).filter f = (if f 0 = true then [0] else []) ++ ((List.range l.length).filter (fun k => f (k + 1))).map Nat.succ := by
      intro f
      rw [List.range_succ_eq_map, List.filter_cons, List.filter_map]
      split
      · rfl
      · rfl
    rw [List.length_cons, e0, sm_app]
    have e2 : sm (fun h => ((x :: l).getD h d).2.1) (((List.range l.length).filter (fun k => decide (((x :: l).getD (k + 1) d).2.2.2 = r))).map Nat.succ) = sm (fun h => (l.getD h d).2.1) ((List.range l.length).filter fun h => decide ((l.getD h d).2.2.2 = r)) := by
      unfold sm
      rw [List.map_map]; rfl
    rw [e2, ← ih, List.filter_cons]
    have e3 : ((x :: l).getD 0 d) = x := rfl
    rw [e3]
    by_cases c : decide (x.2.2.2 = r) = true
    · rw [if_pos c, if_pos c, List.map_cons, List.sum_cons]
      show _ = (x.2.1 + 0) + _
      omega
    · rw [if_neg c, if_neg c]
      show _ = 0 + _
      omega
/-- the houses told to stand on r -/
def hOn (B : Bd) (r : Nat) : List Nat := (List.range (bH B).length).filter fun h => decide (hR B h = r)
theorem bOn_hOn (B : Bd) (r : Nat) : bOn B r = sm (hL B) (hOn B r) := sum_at ([], 0, 0, 0) r (bH B)
theorem cl_succ (H S : Nat) : cl (H + 1) S = cl H S ++ (if S.testBit H = true then [H] else []) := by
  unfold cl
  rw [List.range_succ, List.filter_append, List.filter_cons]
  split <;> rfl
theorem cl_lo {H S : Nat} (h : S < 2 ^ H) : cl (H + 1) S = cl H S := by
  rw [cl_succ, Nat.testBit_lt_two_pow h, if_neg Bool.false_ne_true, List.append_nil]
theorem cl_hi {H S : Nat} (h : S < 2 ^ H) : cl (H + 1) (2 ^ H + S) = cl H S ++ [H] := by
  rw [cl_succ, Nat.testBit_two_pow_add_eq, Nat.testBit_lt_two_pow h]
  show cl H (2 ^ H + S) ++ [H] = _
  congr 1
  unfold cl
  apply List.filter_congr
  intro x hx
  rw [Nat.testBit_two_pow_add_gt (List.mem_range.mp hx)]
theorem sm_congr {f g : Nat → Nat} {l : List Nat} (h : ∀ x, x ∈ l → f x = g x) : sm f l = sm g l := by
  unfold sm; rw [List.map_congr_left h]
theorem CN.add {M M' : rhM} {a : Nat} {H : List (List Nat)} {w : List Nat} (h : CN M a H) (h1 : ∀ k, k < H.length → M'.2.1 a k = M.2.1 a k) (h2 : M'.2.1 a H.length = jl (enc w)) (h3 : w.length ≤ 8) (h4 : ∀ c, c ∈ w → 97 ≤ c ∧ c ≤ 122) : CN M' a (H ++ [w]) := by
  intro k hk
  rw [gd1]
  by_cases c : k = H.length
  · rw [if_pos c, c]; exact ⟨h2, h3, h4⟩
  · rw [List.length_append, List.length_singleton] at hk
    rw [if_neg c, h1 k (by omega)]; exact h k (by omega)
theorem CN.eq {M M' : rhM} {a : Nat} {H : List (List Nat)} (h : CN M a H) (h1 : M'.2.1 a = M.2.1 a) : CN M' a H := by unfold CN; rw [h1]; exact h
def bf (b : Bool) : Int32 := if b = true then 1 else 0
def CK (M : rhM) (t : Nat) (B : Bd) : Prop := (M.1 t 0 = J (bR B).length ∧ M.1 t 1 = J (bH B).length ∧ M.1 t 2 = J ((bN B).getD 999 : Nat) ∧ M.1 t 3 = J ((bD B).getD 999 : Nat) ∧ M.1 t 4 = J (bB B).length) ∧ (CN M 7 (bRn B) ∧ CN M 8 (bHn B)) ∧ (∀ r, r < (bR B).length → M.1 (t + 1) r = J (bLen B r)) ∧
  (∀ S, S < 2 ^ (bH B).length → M.1 (t + 2) S = J (sm (hL B) (cl (bH B).length S)) ∧ M.1 (t + 3) S = J (sm (hW B) (cl (bH B).length S))) ∧ (∀ a b, a < 8 → b < 8 → M.1 (t + 4) (8 * a + b) = J (bW B a b) ∧ M.1 (t + 5) (8 * a + b) = bf (bIs B a b)) ∧
  (∀ h, h < (bH B).length → M.1 9 h = J (hR B h)) ∧ (∀ r, r < 5 → M.1 10 r = J (ss (hOn B r))) ∧ CE M t (bC B) ∧ (M.1 3 7 = bf (bN B).isSome ∧ M.1 3 8 = bf (bD B).isSome ∧ M.1 3 9 = bf (bL B).isSome)
def LW (t : Nat) : List Nat := [3, 4, 7, 8, 9, 10, t, t + 1, t + 2, t + 3, t + 4, t + 5, t + 6, t + 7, t + 8]
def LF (Γ : rhG) (M : rhM) (t : Nat) : Prop := GK Γ ∧ TSh Γ M t ∧ (t = 11 ∨ t = 22) ∧ (M.2.2 3 11 = t + 6 ∧ M.2.2 3 10 = t ∧ M.2.2 3 3 = 7 ∧ M.2.2 3 4 = 8 ∧ M.2.2 3 5 = 9 ∧ M.2.2 3 6 = 10)
theorem LF.r {Γ : rhG} {M M' : rhM} {t : Nat} (h : LF Γ M t) (e : M'.2.2 = M.2.2) : LF Γ M' t := ⟨h.1, h.2.1.fr e, h.2.2.1, by rw [e]; exact h.2.2.2⟩
def CF (M : rhM) (t : Nat) : Prop := ∃ r h : Nat, r ≤ 5 ∧ h ≤ 8 ∧ M.1 t 0 = J r ∧ M.1 t 1 = J h
theorem CK.cf {M : rhM} {t : Nat} {B : Bd} (h : CK M t B) (hP : PW B) : CF M t := ⟨_, _, hP.1.1, hP.1.2.1, h.1.1, h.1.2.1⟩
theorem CK.eqs {M M' : rhM} {t : Nat} {B : Bd} (h : CK M t B) (e : ∀ r, r ∈ [7, 8, 9, 10, t, t + 1, t + 2, t + 3, t + 4, t + 5, t + 6, t + 7, t + 8] → M'.1 r = M.1 r ∧ M'.2.1 r = M.2.1 r) (e3 : ∀ k, k = 7 ∨ k = 8 ∨ k = 9 → M'.1 3 k = M.1 3 k) : CK M' t B := by
  unfold CK CN CE at *
  rw [(e 7 (by simp)).2, (e 8 (by simp)).2, (e 9 (by simp)).1, (e 10 (by simp)).1, (e t (by simp)).1, (e (t + 1) (by simp)).1, (e (t + 2) (by simp)).1, (e (t + 3) (by simp)).1, (e (t + 4) (by simp)).1, (e (t + 5) (by simp)).1, (e (t + 6) (by simp)).1, (e (t + 7) (by simp)).1, (e (t + 8) (by simp)).1, e3 7 (by simp), e3 8 (by simp), e3 9 (by simp)]
  exact h
theorem CK.cx {M M' : rhM} {t : Nat} {B : Bd} (ht : t = 11 ∨ t = 22) (h : CK M t B) (hX : CX M M') : CK M' t B := h.eqs (fun r hr => hX.1.2 r (by simp only [List.mem_cons, List.not_mem_nil, or_false] at hr ⊢; omega)) (fun k hk => hX.2 k (by omega) (by omega))
theorem LW.cx {M M' : rhM} {t : Nat} (hX : CX M M') : Fr (LW t) M M' := hX.1.sub (fun r hr => by simp only [LW, List.mem_cons, List.not_mem_nil, or_false] at hr ⊢; omega)
theorem CS.e7 {M M' : rhM} {bs : List Int32} {s : Ps} {t : Nat} {W : List Nat} (ht : t = 11 ∨ t = 22) (h : CS M bs s) (hF : Fr W M M') (h2 : 2 ∉ W := by simp only [List.mem_cons, List.not_mem_nil, or_false]; omega) (h3 : 3 ∉ W := by simp only [List.mem_cons, List.not_mem_nil, or_false]; omega) (h4 : 4 ∉ W := by simp only [List.mem_cons, List.not_mem_nil, or_false]; omega) (h5 : 5 ∉ W := by simp only [List.mem_cons, List.not_mem_nil, or_false]; omega) : CS M' bs s := by
  obtain ⟨k1, k2, k3, k4, k5, k6⟩ := h
  exact ⟨k1.fr hF h2 h4 h5, k2, by rw [hF.1]; exact k3, by rw [hF.i h3]; exact k4, fun q => by rw [hF.i h3]; exact k5 q, k6⟩
/-- a line's reader f reads as g does -/
def LN (Γ : rhG) (t : Nat) (bs : List Int32) (f : rhG → rhM → Nat → Option rhM) (g : Rs → Rs) : Prop := ∀ M s B, LF Γ M t → CS M bs s → s.2.1 = 0 → CK M t B → PW B → wp (f Γ M 3) (fun M' => Fr (LW t) M M' ∧ (∃ s', CS M' bs s' ∧ s'.2 = (g (s, B)).1.2 ∧ (s'.2.1 = 0 → s' = (g (s, B)).1)) ∧ CF M' t ∧ ((g (s, B)).1.2.1 = 0 → CK M' t (g (s, B)).2))
section
variable {Γ : rhG} {t : Nat} {bs : List Int32}
theorem c_place {M : rhM} {s : Ps} (h : CS M bs s) : M.1 4 5 = J (qp bs s.1) := h.1.2.2.1
theorem fault_if {M : rhM} {s : Ps} (h : CS M bs s) : (M.1 3 0 = 0) = (s.2.1 = 0) := by
  rw [h.2.2.2.1]
  have := h.2.2.2.2.2
  have e : (J s.2.1 = 0) = ((s.2.1 : Int) = 0) := by rw [show (0 : Int32) = J 0 from rfl, J_eq (by omega) (by omega) (by omega) (by omega)]
  rw [e]
  exact propext ⟨fun q => by omega, fun q => by omega⟩
theorem c_readRail : LN Γ t bs (f_X4_readRail) (lRail bs) := by
  intro M s B hF hS hg hK hP
  obtain ⟨hG, hT, ht, r11, r10, r3, r4, r5, r6⟩ := id hF
  have lR : (bRn B).length = (bR B).length := List.length_map _
  have hR5 : (bRn B).length ≤ 5 := by rw [lR]; exact hP.1.1
  have main : ∀ v : Int32, v = (if 5 ≤ (bR B).length then 1 else 0) → wp (f_X4_readRail_17 Γ M 3 3 v) (fun M' => Fr (LW t) M M' ∧ (∃ s', CS M' bs s' ∧ s'.2 = (lRail bs (s, B)).1.2 ∧ (s'.2.1 = 0 → s' = (lRail bs (s, B)).1)) ∧ CF M' t ∧ ((lRail bs (s, B)).1.2.1 = 0 → CK M' t (lRail bs (s, B)).2)) := fun v hv => by
    rw [f_X4_readRail_17, wp_ck_t (GKk3 hG), wp_bind]
    refine (c_advU hG hS hv).mono (fun M1 z => ?_)
    have K1 := hK.cx ht z.1
    obtain ⟨-, -, -, q11, q10, q3, q4, q5, q6⟩ := hF.r z.1.1.1
    rw [wp_ck_t (GKk3 hG), q10, wp_ck_t hT.1, q3, K1.1.1, ← lR, wp_bind]
    refine (c_takeNew hG z.2 (GKk7 hG) (GKl7 hG) hR5 (by decide) K1.2.1.1).mono (fun n y => ?_)
    have X2 := z.1.trans y.2.1
    show wp ((f_X4_takeWord Γ n.2 3 (J 6)).bind _) _
    rw [wp_bind]
    refine (c_takeWord hG y.2.2 (w := 6) (by decide)).mono (fun M3 x => ?_)
    have X3 := X2.trans x.1
    obtain ⟨-, -, -, q11, q10, q3, q4, q5, q6⟩ := hF.r X3.1.1
    rw [x.2.2.2.1, wp_ck_t (GKk4 hG), c_place x.2, wp_bind]
    refine (c_takeNumber hG x.2 (a := 1) (b := 99) (p := _) (by decide) (by decide)).mono (fun l w => ?_)
    have X4 := X3.trans w.2.1
    show wp ((f_X4_takeSign Γ l.2 3 (J 59)).bind _) _
    rw [wp_bind]
    refine (c_takeSign hG w.2.2 (w := 59) (by decide)).mono (fun M5 u => ?_)
    have X5 := X4.trans u.1
    have K5 := hK.cx ht X5
    have eS : (lRail bs (s, B)).1 = tSign bs 59 (tNum bs 1 99 (qp bs (tWord bs 6 (tNew bs (bRn B) (advU bs (5 ≤ (bR B).length) s)).2).1) (tWord bs 6 (tNew bs (bRn B) (advU bs (5 ≤ (bR B).length) s)).2)).2 := rfl
    have eB : (lRail bs (s, B)).2 = (bR B ++ [((tNew bs (bRn B) (advU bs (5 ≤ (bR B).length) s)).1, (tNum bs 1 99 (qp bs (tWord bs 6 (tNew bs (bRn B) (advU bs (5 ≤ (bR B).length) s)).2).1) (tWord bs 6 (tNew bs (bRn B) (advU bs (5 ≤ (bR B).length) s)).2)).1)], B.2) := rfl
    have hS5 : CS M5 bs (lRail bs (s, B)).1 := by rw [eS]; exact u.2
    by_cases g : (lRail bs (s, B)).1.2.1 = 0
    · have hlt := (pw_rail hP g).2
      obtain ⟨-, hT5, -, q11, q10, q3, q4, q5, q6⟩ := hF.r X5.1.1
      rw [wp_ite_t (by rw [fault_if hS5]; exact g), q10, wp_ck_t hT.1, q3, wp_ck_t (GKk7 hG), K5.1.1, wp_ck_t (by rw [J_toInt (by omega) (by omega), GKl7 hG]; omega), J_clamp (by omega) (by omega), Int.toNat_natCast]
      generalize hN : tNew bs (bRn B) (advU bs (5 ≤ (bR B).length) s) = nn at *
      generalize hM : tNum bs 1 99 (qp bs (tWord bs 6 nn.2).1) (tWord bs 6 nn.2) = ll at *
      show wp ((f_X9_addRail Γ (rhsl M5 7 (bR B).length n.1) t l.1).bind _) _
      rw [wp_bind, f_X9_addRail, wp_ck_t hT.1, sl_1, K5.1.1, wp_ite_t (by rw [show (5 : Int32) = J 5 from rfl, J_lt (by omega) (by omega) (by omega) (by omega)]; omega), sl_3, hT5.2.2.2.2.2.2.2.2.2.2.2.1.1, wp_ck_t hT.2.1.1, wp_ck_t (by rw [J_toInt (by omega) (by omega), hT.2.1.2]; omega), J_clamp (by omega) (by omega), Int.toNat_natCast, wp_some, wp_some]
      have F : Fr [7, t, t + 1] M5 (rhsi (rhsi (rhsl M5 7 (bR B).length n.1) (t + 1) (bR B).length l.1) t 0 ((rhsi (rhsl M5 7 (bR B).length n.1) (t + 1) (bR B).length l.1).1 t 0 + 1)) := (((Fr.refl _ _).sl (by simp) _ _).si (by simp) _ _).si (by simp) _ _
      have i0 : (rhsi (rhsl M5 7 (bR B).length n.1) (t + 1) (bR B).length l.1).1 t 0 + 1 = J ((bR B).length + 1 : Nat) := by
        rw [si_1, if_neg (by omega), sl_1, K5.1.1, show (1 : Int32) = J 1 from rfl, J_add, J_suc]
      rw [i0] at F ⊢
      generalize hM6 : rhsi (rhsi (rhsl M5 7 (bR B).length n.1) (t + 1) (bR B).length l.1) t 0 (J ((bR B).length + 1 : Nat)) = M6 at *
      have o : ∀ r, ¬ (r = 7 ∨ r = t ∨ r = t + 1) → M6.1 r = M5.1 r ∧ M6.2.1 r = M5.2.1 r := fun r hr => F.2 r (by simp only [List.mem_cons, List.not_mem_nil, or_false]; exact hr)
      have it : ∀ k, k ≠ 0 → M6.1 t k = M5.1 t k := fun k hk => by rw [← hM6, si_1, if_neg (by omega), si_1, if_neg (by omega), sl_1]
      have i7 : ∀ k, M6.2.1 7 k = if k = (bR B).length then n.1 else M5.2.1 7 k := fun k => by
        rw [← hM6, si_2, si_2, sl_2]
        by_cases c : k = (bR B).length
        · rw [if_pos ⟨rfl, c⟩, if_pos c]
        · rw [if_neg (fun q => c q.2), if_neg c]
      obtain ⟨⟨k0, k1, k2, k3, k4⟩, ⟨kn1, kn2⟩, kl, ks, kw, kh, kr, kc, kf⟩ := K5
      have nl3 : 3 ∉ [7, t, t + 1] := by simp only [List.mem_cons, List.not_mem_nil, or_false]; omega
      refine ⟨(LW.cx X5).trans (F.sub (fun r hr => by simp only [LW, List.mem_cons, List.not_mem_nil, or_false] at hr ⊢; omega)), ⟨_, hS5.e7 ht F, rfl, fun _ => rfl⟩, ⟨(bR B).length + 1, (bH B).length, by omega, hP.1.2.1, by rw [← hM6, si_1, if_pos ⟨rfl, rfl⟩], by rw [it 1 (by decide)]; exact k1⟩, fun _ => ?_⟩
      rw [eB]
      refine ⟨⟨?_, by rw [it 1 (by decide)]; exact k1, by rw [it 2 (by decide)]; exact k2, by rw [it 3 (by decide)]; exact k3, by rw [it 4 (by decide)]; exact k4⟩, ⟨?_, kn2.eq (o 8 (by omega)).2⟩, fun r hr => ?_, ?_, ?_, ?_, ?_, ?_, ?_⟩
      · show M6.1 t 0 = J ((bR B ++ [(nn.1, ll.1)]).length : Nat)
        rw [← hM6, si_1, if_pos ⟨rfl, rfl⟩, List.length_append, List.length_singleton]
      · show CN M6 7 ((bR B ++ [(nn.1, ll.1)]).map fun x => x.1)
        rw [List.map_append]
        refine CN.add (H := bRn B) kn1 (fun k hk => ?_) ?_ y.1.2.1 y.1.2.2
        · rw [i7, if_neg (by omega)]
        · rw [i7, if_pos lR]; exact y.1.1
      · rw [bLen_add]
        have hr : r < (bR B ++ [(nn.1, ll.1)]).length := hr
        rw [List.length_append, List.length_singleton] at hr
        rw [← hM6, si_1, if_neg (by omega), si_1]
        by_cases c : r = (bR B).length
        · rw [if_pos ⟨rfl, c⟩, if_pos c]; exact w.1
        · rw [if_neg (fun q => c q.2), if_neg c, sl_1]; exact kl r (by omega)
      · rw [(o (t + 2) (by omega)).1, (o (t + 3) (by omega)).1]; exact ks
      · rw [(o (t + 4) (by omega)).1, (o (t + 5) (by omega)).1]; exact kw
      · rw [(o 9 (by omega)).1]; exact kh
      · rw [(o 10 (by omega)).1]; exact kr
      · exact kc.fr F (by simp only [List.mem_cons, List.not_mem_nil, or_false]; omega) (by simp only [List.mem_cons, List.not_mem_nil, or_false]; omega) (by simp only [List.mem_cons, List.not_mem_nil, or_false]; omega)
      · rw [(o 3 (by omega)).1]; exact kf
    · rw [wp_ite_f (by rw [fault_if hS5]; exact g), wp_some]
      exact ⟨LW.cx X5, ⟨_, hS5, rfl, fun _ => rfl⟩, K5.cf hP, fun q => absurd q g⟩
  rw [f_X4_readRail, wp_ck_t (GKk3 hG), r10, wp_ck_t hT.1, hK.1.1]
  by_cases c : 5 ≤ (bR B).length
  · rw [wp_ite_f (by rw [show (5 : Int32) = J 5 from rfl, J_lt (by omega) (by omega) (by omega) (by omega)]; omega)]; exact main 1 (by rw [if_pos c])
  · rw [wp_ite_t (by rw [show (5 : Int32) = J 5 from rfl, J_lt (by omega) (by omega) (by omega) (by omega)]; omega)]; exact main 0 (by rw [if_neg c])
end
