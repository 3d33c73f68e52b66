/-! THE REFERENCE'S READER: the bank -/
def bnk (c : Nat) : Nat := if c = 112 then 5 else if c = 113 ∨ c = 114 ∨ c = 115 then 8 else if c = 116 ∨ c = 120 then 64 else if c = 123 ∨ c = 124 then 500 else if (105 ≤ c ∧ c ≤ 111) ∨ (117 ≤ c ∧ c ≤ 119) then 1 else 0
def YW : List Nat := [102, 105, 106, 107, 108, 109, 110, 111, 112, 113, 114, 115, 116, 117, 118, 119, 120, 121, 122, 123, 124, 125, 126]
def YB (b : Nat) (M M' : rhM) : Prop := Fr YW M M' ∧ (∀ k, (k < 4 ∨ 9 < k) → k ≠ 36 → k ≠ 37 → k ≠ 38 → M'.1 102 k = M.1 102 k) ∧ ∀ c i, bnk c ≠ 0 → i / bnk c = 1 - b → M'.1 c i = M.1 c i
section
variable {b : Nat} {M M' M'' : rhM}
theorem YB.refl (b : Nat) (M : rhM) : YB b M M := ⟨Fr.refl _ _, fun _ _ _ _ _ => rfl, fun _ _ _ _ => rfl⟩
theorem YB.trans (h : YB b M M') (h2 : YB b M' M'') : YB b M M'' := ⟨h.1.trans h2.1, fun k a c d e => (h2.2.1 k a c d e).trans (h.2.1 k a c d e), fun c i hc hi => (h2.2.2 c i hc hi).trans (h.2.2 c i hc hi)⟩
theorem YB.yl (hb : b ≤ 1) (h : YL b M M') : YB b M M' := by
  refine ⟨h.1.sub (by decide), h.2.1, fun c i hc hi => ?_⟩
  by_cases c1 : c = 108
  · rw [c1] at hi ⊢
    have e : bnk 108 = 1 := rfl
    rw [e, Nat.div_one] at hi
    exact h.2.2.1 i (by omega)
  by_cases c2 : c = 123 ∨ c = 124
  · have e : bnk c = 500 := by rcases c2 with rfl | rfl <;> rfl
    rw [e] at hi
    exact h.2.2.2 c i c2 (by omega)
  · have : c ∉ [102, 108, 123, 124, 125, 126] := by
      intro q
      simp only [List.mem_cons, List.not_mem_nil, or_false] at q
      rcases q with q | q | q | q | q | q
      · rw [q] at hc; exact hc rfl
      · exact c1 q
      · exact c2 (Or.inl q)
      · exact c2 (Or.inr q)
      · rw [q] at hc; exact hc rfl
      · rw [q] at hc; exact hc rfl
    rw [h.1.i this]
theorem YB.yx (hb : b ≤ 1) (h : YX M M') : YB b M M' := YB.yl hb (YL.yx h)
theorem YB.si (h : YB b M M') {r j : Nat} (hr : r ∈ YW) (h1 : r ≠ 102) (hj : j / bnk r ≠ 1 - b) (v : Int32) : YB b M (rhsi M' r j v) :=
  ⟨h.1.si hr _ _, fun k a c d e => by rw [si_1, if_neg (fun q => h1 q.1.symm)]; exact h.2.1 k a c d e, fun c i hc hi => by rw [si_1, if_neg (fun q => hj (by rw [← q.1, ← q.2]; exact hi))]; exact h.2.2 c i hc hi⟩
theorem YB.sl (h : YB b M M') {r j : Nat} (hr : r ∈ YW) (v : Int64) : YB b M (rhsl M' r j v) := ⟨h.1.sl hr _ _, h.2.1, h.2.2⟩
end
def RE (Γ : rhG) (M : rhM) (b : Nat) : Prop := GK Γ ∧ MR M ∧ b ≤ 1 ∧ M.1 102 35 = J b
def RKB (M : rhM) (b : Nat) (B : Bd) : Prop := (M.1 105 b = J (bR B).length ∧ M.1 106 b = J (bH B).length ∧ M.1 107 b = J (bB B).length ∧ M.1 109 b = J ((bN B).getD 999 : Nat) ∧ M.1 110 b = J ((bD B).getD 999 : Nat)) ∧ (RN M 121 (5 * b) (bRn B) ∧ RN M 122 (8 * b) (bHn B)) ∧ (∀ r, r < (bR B).length → M.1 112 (5 * b + r) = J (bLen B r)) ∧
  (∀ h, h < (bH B).length → M.1 113 (8 * b + h) = J (hL B h) ∧ M.1 114 (8 * b + h) = J (hW B h) ∧ M.1 115 (8 * b + h) = J (hR B h)) ∧ (∀ x y, x < 8 → y < 8 → M.1 116 (64 * b + 8 * x + y) = J (bW B x y) ∧ M.1 120 (64 * b + 8 * x + y) = bf (bIs B x y)) ∧
  EC M b (bC B) ∧ (M.1 117 b = bf (bN B).isSome ∧ M.1 118 b = bf (bD B).isSome ∧ M.1 119 b = bf (bL B).isSome) ∧ M.1 111 b = J (500 * b + (bC B).1.length : Nat)
section
variable {Γ : rhG} {b : Nat} {M M' : rhM} {bs : List Int32} {B : Bd} {s : Ps}
theorem RE.yb (h : RE Γ M b) (k : YB b M M') : RE Γ M' b := ⟨h.1, fun f h1 h2 => by rw [k.1.1]; exact h.2.1 f h1 h2, h.2.2.1, by rw [k.2.1 35 (by decide) (by decide) (by decide) (by decide)]; exact h.2.2.2⟩
theorem RKB.yx (h : RKB M b B) (k : YX M M') : RKB M' b B := by
  have e : ∀ r, r ≠ 102 → M'.1 r = M.1 r ∧ M'.2.1 r = M.2.1 r := fun r hr => k.1.2 r (by simp only [List.mem_singleton]; exact hr)
  unfold RKB RN EC at *
  rw [(e 105 (by decide)).1, (e 106 (by decide)).1, (e 107 (by decide)).1, (e 109 (by decide)).1, (e 110 (by decide)).1, (e 121 (by decide)).2, (e 122 (by decide)).2, (e 112 (by decide)).1, (e 113 (by decide)).1, (e 114 (by decide)).1, (e 115 (by decide)).1, (e 116 (by decide)).1, (e 120 (by decide)).1, (e 108 (by decide)).1, (e 123 (by decide)).1, (e 124 (by decide)).1, (e 117 (by decide)).1, (e 118 (by decide)).1, (e 119 (by decide)).1, (e 111 (by decide)).1, k.2 36 (by decide)]
  exact h
theorem RN.add {a o : Nat} {H : List (List Nat)} {w : List Nat} (h : RN M a o H) (h1 : ∀ k, k < H.length → M'.2.1 a (o + k) = M.2.1 a (o + k)) (h2 : M'.2.1 a (o + H.length) = jl (enb 256 0 w)) (h3 : w.length ≤ 8) (h4 : ∀ c, c ∈ w → 97 ≤ c ∧ c ≤ 122) : RN M' a o (H ++ [w]) := by
  intro k hk
  rw [gd1]
  by_cases c : k = H.length
  · rw [if_pos c, c]; exact ⟨h2, h3, h4⟩
  · rw [List.length_append, List.length_singleton] at hk
    rw [if_neg c, h1 k (by omega)]; exact h k (by omega)
theorem RN.eq {a o : Nat} {H : List (List Nat)} (h : RN M a o H) (h1 : M'.2.1 a = M.2.1 a) : RN M' a o H := by unfold RN; rw [h1]; exact h
theorem y_railHere (hE : RE Γ M b) (hK : RKB M b B) (hP : PW B) {i : Nat} (h : RT M bs i) : f_X12_railHere Γ M 102 = some (J (hre bs (bRn B) i)) := by
  obtain ⟨hG, hR, hb, h35⟩ := hE
  have lR : (bRn B).length = (bR B).length := List.length_map _
  have h5 := hP.1.1
  rw [f_X12_railHere, rhck_t (GKk102 hG), MRf11 hR, rhck_t (GKk105 hG), h35, rhck_t (by rw [J_toInt (by omega) (by omega), GKl105 hG]; omega), J_clamp (by omega) (by omega), Int.toNat_natCast, MRf27 hR, hK.1.1, ← lR, show (5 : Int32) = J 5 from rfl, J_mul, show ((5 : Int) * b) = ((5 * b : Nat) : Int) by omega, y_here hG h (GKk121 hG) (by rw [GKl121 hG]; omega) (by omega) hK.2.1.1]; rfl
theorem RE.ev (hE : RE Γ M b) (hK : RKB M b B) (hP : PW B) : EV Γ M b (bHn B) := by
  have lH : (bHn B).length = (bH B).length := List.length_map _
  exact ⟨hE.1, hE.2.1, hE.2.2.1, hE.2.2.2, hK.2.1.2, by rw [lH]; exact hP.1.2.1, by rw [lH]; exact hK.1.2.1⟩
theorem YX.re (h : YX M M') (hE : RE Γ M b) : RE Γ M' b := hE.yb (YB.yx hE.2.2.1 h)
theorem y_after (hG : GK Γ) (hR : MR M) (h : QS M bs s) {k : Nat} (hk : k < 18) {v : Int64} (hv : v = kwB k) {x y : Nat} (hx : x < 10000) (hy : y < 10000) : wp (f_X12_after Γ M 102 v (J x) (J y)) (fun r => YX M r.2 ∧ QS r.2 bs (tNum bs x y (qp bs (tWord bs k s).1) (tWord bs k s)).2 ∧ ((tNum bs x y (qp bs (tWord bs k s).1) (tWord bs k s)).2.2.1 = 0 → r.1 = J (tNum bs x y (qp bs (tWord bs k s).1) (tWord bs k s)).1)) := by
  rw [f_X12_after, wp_ck_t (GKk102 hG)]
  refine y_word hG hR h hk hv (fun M1 z1 z2 => ?_)
  rw [wp_bind]
  exact (y_num hG (z1.mr hR) z2 hx hy).mono (fun r y => (wp_some _ _).mpr ⟨z1.trans y.1, y.2⟩)
theorem QS.sl (h : QS M bs s) {r : Nat} (h1 : r ≠ 102) (j : Nat) (v : Int64) : QS (rhsl M r j v) bs s := by
  obtain ⟨⟨i, ⟨a0, b1, b2, b3, b4, b5⟩, h2', h3⟩, h4, h5, h6⟩ := h
  exact ⟨⟨i, ⟨a0, b1, b2, b3, fun q => by rw [sl_2, if_neg (fun z => h1 z.1.symm)]; exact b4 q, b5⟩, h2', h3⟩, h4, h5, h6⟩
/- a line begun behind a fault keeps it -/
theorem tSign_2 {c : Nat} (h : s.2.1 ≠ 0) : (tSign bs c s).2 = s.2 := by rw [tSign_bad h]
theorem lRail_full (h : 5 ≤ (bR B).length) : (lRail bs (s, B)).1.2 = (rfu bs s).2 := by
  have e : advU bs (5 ≤ (bR B).length) s = rfu bs s := by unfold advU; rw [if_pos h]
  have hb := rfu_bad (bs := bs) s
  unfold lRail
  simp only [e, tNew_bad hb, tWord_bad hb, tNum_bad hb, tSign_bad hb]
theorem lHouse_full (h : 8 ≤ (bH B).length) : (lHouse bs (s, B)).1.2 = (rfu bs s).2 := by
  have e : advU bs (8 ≤ (bH B).length) s = rfu bs s := by unfold advU; rw [if_pos h]
  have hb := rfu_bad (bs := bs) s
  unfold lHouse
  simp only [e, tNew_bad hb, tWord_bad hb, tNum_bad hb, tTold_bad hb, bla_st hb, ite_self, tSign_bad hb]
theorem lBeside_full (h : 20 ≤ (bB B).length) : (lBeside bs (s, B)).1.2 = (rfu bs s).2 := by
  have e : advU bs (20 ≤ (bB B).length) s = rfu bs s := by unfold advU; rw [if_pos h]
  have hb := rfu_bad (bs := bs) s
  unfold lBeside
  simp only [e, tTold_bad hb, bla_st hb, ite_self, tWord_bad hb, tSNum_bad hb, tSign_bad hb]
theorem lNeck_full (h : (bN B).isSome = true) : (lNeck bs (s, B)).1.2 = (rfu bs s).2 := by
  have e : advU bs ((bN B).isSome = true) s = rfu bs s := by unfold advU; rw [if_pos h]
  have hb := rfu_bad (bs := bs) s
  unfold lNeck
  simp only [e, tNum_bad hb, tSign_bad hb]
theorem lDraws_full (h : (bD B).isSome = true) : (lDraws bs (s, B)).1.2 = (rfu bs s).2 := by
  have e : advU bs ((bD B).isSome = true) s = rfu bs s := by unfold advU; rw [if_pos h]
  have hb := rfu_bad (bs := bs) s
  unfold lDraws
  simp only [e, tNum_bad hb, tSign_bad hb]
theorem lLaw_full (h : (bL B).isSome = true) : (lLaw bs (s, B)).1.2 = (rfu bs s).2 := by
  have e : advU bs ((bL B).isSome = true) s = rfu bs s := by unfold advU; rw [if_pos h]
  have hb := rfu_bad (bs := bs) s
  unfold lLaw
  simp only [e]
  have e2 := (pEk_st (bs := bs) (H := bHn B) (k := 7) (s := (rfu bs s, [], 0)) hb).1
  have e3 : (pEk bs (bHn B) 7 (rfu bs s, [], 0)).1.2.1 ≠ 0 := by rw [e2]; exact hb
  rw [tSign_2 e3, e2]
end
