/-! THE REFERENCE'S READER: a law -/
section
variable {M : rhM} {bs : List Int32} {s : Ps}
theorem QS.c (h : QS M bs s) {r : Nat} (h1 : r ≠ 102) (h2 : r ≠ 104) (j : Nat) (v : Int32) : QS (rhsi M r j v) bs s := by
  have e : ∀ a, a ≠ r → (rhsi M r j v).1 a = M.1 a := fun a ha => by funext k; rw [si_1, if_neg (fun q => ha q.1)]
  obtain ⟨⟨i, ⟨⟨a0, a1, a2, a3⟩, b1, b2, b3, b4, b5⟩, h2', h3⟩, h4, h5, h6⟩ := h
  refine ⟨⟨i, ⟨⟨by rw [e 102 h1.symm]; exact a0, by rw [e 104 h2.symm]; exact a1, a2, a3⟩, by rw [e 102 h1.symm]; exact b1, by rw [e 102 h1.symm]; exact b2, by rw [e 102 h1.symm]; exact b3, b4, by rw [e 102 h1.symm]; exact b5⟩, h2', h3⟩, by rw [e 102 h1.symm]; exact h4, by rw [e 102 h1.symm]; exact h5, h6⟩
theorem QS.f (h : QS M bs s) {k : Nat} (hk : 9 < k) (v : Int32) : QS (rhsi M 102 k v) bs s := by
  obtain ⟨⟨i, h1, h2, h3⟩, h4, h5, h6⟩ := h
  exact ⟨⟨i, h1.si (by omega) (by omega) (by omega) (by omega) (by omega) v, h2, h3⟩, by rw [si_1, if_neg (by omega)]; exact h4, by rw [si_1, if_neg (by omega)]; exact h5, h6⟩
end
def YL (b : Nat) (M M' : rhM) : Prop := Fr [102, 108, 123, 124, 125, 126] M M' ∧ (∀ k, (k < 4 ∨ 9 < k) → k ≠ 36 → k ≠ 37 → k ≠ 38 → M'.1 102 k = M.1 102 k) ∧ (∀ i, i ≠ b → M'.1 108 i = M.1 108 i) ∧ ∀ c i, (c = 123 ∨ c = 124) → (i < 500 * b ∨ 500 * b + 500 ≤ i) → M'.1 c i = M.1 c i
section
variable {b : Nat} {M M' M'' : rhM}
theorem YL.refl (b : Nat) (M : rhM) : YL b M M := ⟨Fr.refl _ _, fun _ _ _ _ _ => rfl, fun _ _ => rfl, fun _ _ _ _ => rfl⟩
theorem YL.trans (h : YL b M M') (h2 : YL b M' M'') : YL b M M'' := ⟨h.1.trans h2.1, fun k a c d e => (h2.2.1 k a c d e).trans (h.2.1 k a c d e), fun i hi => (h2.2.2.1 i hi).trans (h.2.2.1 i hi), fun c i hc hi => (h2.2.2.2 c i hc hi).trans (h.2.2.2 c i hc hi)⟩
theorem YL.yx (h : YX M M') : YL b M M' := ⟨h.1.sub (fun r hr => by rw [List.mem_singleton] at hr; rw [hr]; simp), fun k hk _ _ _ => h.2 k hk, fun i _ => by rw [h.1.i (by decide)], fun c i hc _ => by rcases hc with rfl | rfl <;> rw [h.1.i (by decide)]⟩
theorem YL.si (h : YL b M M') {r j : Nat} (hr : (r = 108 ∧ j = b) ∨ ((r = 123 ∨ r = 124) ∧ 500 * b ≤ j ∧ j < 500 * b + 500) ∨ (r = 125 ∨ r = 126) ∨ (r = 102 ∧ (j = 36 ∨ j = 37 ∨ j = 38))) (v : Int32) : YL b M (rhsi M' r j v) :=
  ⟨h.1.si (by simp only [List.mem_cons, List.not_mem_nil, or_false]; omega) _ _, fun k a c d e => by rw [si_1, if_neg (by omega)]; exact h.2.1 k a c d e, fun i hi => by rw [si_1, if_neg (by omega)]; exact h.2.2.1 i hi, fun c i hc hi => by rw [si_1, if_neg (by omega)]; exact h.2.2.2 c i hc hi⟩
end
/-- the pile in the reference -/
def PS (M : rhM) (st : Pk) : Prop := M.1 102 38 = J st.length ∧ ∀ j t, st.reverse[j]? = some t → M.1 125 j = J t.1 ∧ M.1 126 j = J (mch t.2)
def EC (M : rhM) (b : Nat) (e : List (Nat × Nat) × Nat) : Prop := M.1 102 36 = J (500 * b + e.1.length : Nat) ∧ M.1 108 b = J e.2 ∧ Sg (M.1 123) (500 * b) (e.1.map fun o => mch o.1) ∧ Sg (M.1 124) (500 * b) (e.1.map fun o => o.2)
def XSt (M : rhM) (b : Nat) (bs : List Int32) (x : Xs) : Prop := QS M bs x.2.2.1 ∧ (x.2.2.1.2.1 = 0 → PS M x.2.1 ∧ EC M b x.2.2.2 ∧ M.1 102 37 = J (wth x.2.1))
def EV (Γ : rhG) (M : rhM) (b : Nat) (H : List (List Nat)) : Prop := GK Γ ∧ MR M ∧ b ≤ 1 ∧ M.1 102 35 = J b ∧ RN M 122 (8 * b) H ∧ H.length ≤ 8 ∧ M.1 106 b = J H.length
section
variable {Γ : rhG} {M M' : rhM} {b : Nat} {bs : List Int32} {s : Ps} {H : List (List Nat)}
theorem PS.top {t : Nat × Nat} {st : Pk} (h : PS M (t :: st)) : M.1 125 st.length = J t.1 ∧ M.1 126 st.length = J (mch t.2) := by
  refine h.2 st.length t ?_
  rw [List.reverse_cons, List.getElem?_append_right (by rw [List.length_reverse]; exact Nat.le_refl _), List.length_reverse, Nat.sub_self]; rfl
theorem PS.drop {t : Nat × Nat} {st : Pk} (h : PS M (t :: st)) (e5 : M'.1 125 = M.1 125) (e6 : M'.1 126 = M.1 126) (e38 : M'.1 102 38 = J st.length) : PS M' st := by
  refine ⟨e38, fun j u hj => ?_⟩
  rw [e5, e6]
  refine h.2 j u ?_
  rw [List.reverse_cons, List.getElem?_append_left (by have := (List.getElem?_eq_some_iff.mp hj).1; exact this)]; exact hj
theorem PS.eq {st : Pk} (h : PS M st) (e5 : M'.1 125 = M.1 125) (e6 : M'.1 126 = M.1 126) (e38 : M'.1 102 38 = M.1 102 38) : PS M' st := by
  unfold PS; rw [e5, e6, e38]; exact h
theorem EC.eq {e : List (Nat × Nat) × Nat} (h : EC M b e) (e36 : M'.1 102 36 = M.1 102 36) (e8 : M'.1 108 b = M.1 108 b) (e3 : M'.1 123 = M.1 123) (e4 : M'.1 124 = M.1 124) : EC M' b e := by
  unfold EC; rw [e36, e8, e3, e4]; exact h
theorem EV.yl (h : EV Γ M b H) (k : YL b M M') : EV Γ M' b H := by
  obtain ⟨h1, h2, h3, h4, h5, h6, h7⟩ := h
  refine ⟨h1, fun f a c => by rw [k.1.1]; exact h2 f a c, h3, by rw [k.2.1 35 (by decide) (by decide) (by decide) (by decide)]; exact h4, ?_, h6, by rw [k.1.i (by decide)]; exact h7⟩
  unfold RN
  rw [k.1.l (r := 122) (by decide)]; exact h5
theorem y_houseHere (hE : EV Γ M b H) {i : Nat} (h : RT M bs i) : f_X12_houseHere Γ M 102 = some (J (hre bs H i)) := by
  obtain ⟨hG, hR, hb, h35, hN, hH, h6⟩ := hE
  rw [f_X12_houseHere, rhck_t (GKk102 hG), MRf12 hR, rhck_t (GKk106 hG), h35, rhck_t (by rw [J_toInt (by omega) (by omega), GKl106 hG]; omega), J_clamp (by omega) (by omega), Int.toNat_natCast, MRf28 hR, h6, show (8 : Int32) = J 8 from rfl, J_mul, show ((8 : Int) * b) = ((8 * b : Nat) : Int) by omega, y_here hG h (GKk122 hG) (by rw [GKl122 hG]; omega) (by omega) hN]; rfl
theorem y_emit (hG : GK Γ) (hR : MR M) (hb : b ≤ 1) {e : List (Nat × Nat) × Nat} (hE : EC M b e) (hl : e.1.length < 500) (v w : Int32) : wp (f_X12_emit Γ M 102 v w) (fun M' => YL b M M' ∧ (∀ s : Ps, QS M bs s → QS M' bs s) ∧ M'.1 125 = M.1 125 ∧ M'.1 126 = M.1 126 ∧ (∀ k, k ≠ 36 → M'.1 102 k = M.1 102 k) ∧ ∀ k n : Nat, v = J (mch k) → w = J n → EC M' b (e.1 ++ [(k, n)], e.2)) := by
  obtain ⟨e0, e1, e2, e3⟩ := hE
  rw [f_X12_emit, wp_ck_t (GKk102 hG), MRf29 hR, MRf30 hR, wp_ck_t (GKk123 hG), e0, wp_ck_t (by rw [J_toInt (by omega) (by omega), GKl123 hG]; omega), J_clamp (by omega) (by omega), Int.toNat_natCast]
  have i1 : (rhsi M 123 (500 * b + e.1.length) v).1 102 36 = J (500 * b + e.1.length : Nat) := by rw [si_1, if_neg (by omega)]; exact e0
  simp only [i1]
  rw [wp_ck_t (GKk124 hG), wp_ck_t (by rw [J_toInt (by omega) (by omega), GKl124 hG]; omega), J_clamp (by omega) (by omega), Int.toNat_natCast]
  have i2 : (rhsi (rhsi M 123 (500 * b + e.1.length) v) 124 (500 * b + e.1.length) w).1 102 36 = J (500 * b + e.1.length : Nat) := by rw [si_1, if_neg (by omega)]; exact i1
  simp only [i2]
  rw [show (1 : Int32) = J 1 from rfl, J_add, J_suc, wp_some]
  refine ⟨(((YL.refl _ _).si (by omega) _).si (by omega) _).si (by omega) _, fun s q => ((q.c (by decide) (by decide) _ _).c (by decide) (by decide) _ _).f (by decide) _, by funext k; rw [si_1, if_neg (by omega), si_1, if_neg (by omega), si_1, if_neg (by omega)], by funext k; rw [si_1, if_neg (by omega), si_1, if_neg (by omega), si_1, if_neg (by omega)], fun k hk => by rw [si_1, if_neg (by omega), si_1, if_neg (by omega), si_1, if_neg (by omega)], fun k n hv hw => ⟨?_, ?_, ?_, ?_⟩⟩
  · rw [si_1, if_pos ⟨rfl, rfl⟩, List.length_append]; rfl
  · rw [si_1, if_neg (by omega), si_1, if_neg (by omega), si_1, if_neg (by omega)]; exact e1
  · show Sg _ _ ((e.1 ++ [(k, n)]).map fun o => mch o.1)
    rw [List.map_append, Sg_app]
    refine ⟨Sg_cong _ _ (fun i h1 h2 => ?_) e2, ?_, trivial⟩
    · rw [List.length_map] at h2
      rw [si_1, if_neg (by omega), si_1, if_neg (by omega), si_1, if_neg (by omega)]
    · rw [List.length_map, si_1, if_neg (by omega), si_1, if_neg (by omega), si_1, if_pos ⟨rfl, rfl⟩]; exact hv
  · show Sg _ _ ((e.1 ++ [(k, n)]).map fun o => o.2)
    rw [List.map_append, Sg_app]
    refine ⟨Sg_cong _ _ (fun i h1 h2 => ?_) e3, ?_, trivial⟩
    · rw [List.length_map] at h2
      rw [si_1, if_neg (by omega), si_1, if_neg (by omega), si_1, if_neg (by omega)]
    · rw [List.length_map, si_1, if_neg (by omega), si_1, if_pos ⟨rfl, rfl⟩]; exact hw
theorem y_push (hG : GK Γ) (hR : MR M) {st : Pk} (hP : PS M st) (hl : st.length < 90) {k c : Nat} {w : Int32} (hw : w = J (mch c)) : wp (f_X12_pushE Γ M 102 (J k) w) (fun M' => YL b M M' ∧ (∀ s : Ps, QS M bs s → QS M' bs s) ∧ PS M' ((k, c) :: st) ∧ (∀ r, r ≠ 102 → r ≠ 125 → r ≠ 126 → M'.1 r = M.1 r) ∧ ∀ k, k ≠ 38 → M'.1 102 k = M.1 102 k) := by
  obtain ⟨p0, p1⟩ := hP
  rw [f_X12_pushE, wp_ck_t (GKk102 hG), MRf31 hR, MRf32 hR, wp_ck_t (GKk125 hG), p0, wp_ck_t (by rw [J_toInt (by omega) (by omega), GKl125 hG]; omega), J_clamp (by omega) (by omega), Int.toNat_natCast]
  have i1 : (rhsi M 125 st.length (J k)).1 102 38 = J st.length := by rw [si_1, if_neg (by omega)]; exact p0
  simp only [i1]
  rw [wp_ck_t (GKk126 hG), wp_ck_t (by rw [J_toInt (by omega) (by omega), GKl126 hG]; omega), J_clamp (by omega) (by omega), Int.toNat_natCast]
  have i2 : (rhsi (rhsi M 125 st.length (J k)) 126 st.length w).1 102 38 = J st.length := by rw [si_1, if_neg (by omega)]; exact i1
  simp only [i2]
  rw [show (1 : Int32) = J 1 from rfl, J_add, J_suc, wp_some]
  refine ⟨(((YL.refl _ _).si (by omega) _).si (by omega) _).si (by omega) _, fun s q => ((q.c (by decide) (by decide) _ _).c (by decide) (by decide) _ _).f (by decide) _, ⟨by rw [si_1, if_pos ⟨rfl, rfl⟩]; rfl, fun j t hj => ?_⟩, fun r h1 h2 h3 => by funext i; rw [si_1, if_neg (fun q => h1 q.1), si_1, if_neg (fun q => h3 q.1), si_1, if_neg (fun q => h2 q.1)], fun i hi => by rw [si_1, if_neg (by omega), si_1, if_neg (by omega), si_1, if_neg (by omega)]⟩
  rw [List.reverse_cons] at hj
  have e5 : ∀ v0 : Int32, (rhsi (rhsi (rhsi M 125 st.length (J k)) 126 st.length w) 102 38 v0).1 125 j = if j = st.length then J k else M.1 125 j := fun v0 => by
    rw [si_1, if_neg (by omega), si_1, if_neg (by omega), si_1]; simp only [true_and]
  have e6 : ∀ v0 : Int32, (rhsi (rhsi (rhsi M 125 st.length (J k)) 126 st.length w) 102 38 v0).1 126 j = if j = st.length then w else M.1 126 j := fun v0 => by
    rw [si_1, if_neg (by omega), si_1]; simp only [true_and]
    by_cases c : j = st.length
    · rw [if_pos c, if_pos c]
    · rw [if_neg c, if_neg c, si_1, if_neg (by omega)]
  rw [e5, e6]
  by_cases c2 : j < st.length
  · rw [List.getElem?_append_left (by rw [List.length_reverse]; exact c2)] at hj
    rw [if_neg (by omega), if_neg (by omega)]; exact p1 j t hj
  · rw [List.getElem?_append_right (by rw [List.length_reverse]; omega), List.length_reverse] at hj
    by_cases c3 : j = st.length
    · rw [c3, Nat.sub_self] at hj
      have e : (k, c) = t := Option.some.inj hj
      rw [if_pos c3, if_pos c3, ← e]; exact ⟨rfl, hw⟩
    · obtain ⟨d, hd⟩ : ∃ d, j - st.length = d + 1 := ⟨j - st.length - 1, by omega⟩
      rw [hd] at hj
      cases hj
def wv (q : Int) : Nat := if q = 13 then 109 else if q = 7 then 119 else if q = 6 then 108 else if q = 14 then 102 else if q = 15 then 116 else if q = 16 then 114 else if q = 17 then 104 else 0
theorem y_wordHere (hG : GK Γ) {i : Nat} (h : RT M bs i) : f_X12_wordHere Γ M 102 = some (J (wv (qx bs i))) := by
  obtain ⟨⟨a0, a1, a2, a3, a4, a5, a6, a7, a8⟩, d0, d1, d2, d3, d4, d5, d6, d7, d8⟩ := kwB_at
  rw [f_X12_wordHere, rhck_t (GKk102 hG), y_isWordA hG h (k := 13) (by decide) d1]
  have cs : ∀ (c : Prop) [Decidable c] (K : Int32 → Option Int32), (some (if c then (1 : Int32) else 0)).bind K = if c then K 1 else K 0 := fun c _ K => by split <;> rfl
  rw [cs]
  unfold wv
  by_cases c : qx bs i = 13
  · rw [if_pos (by exact c), if_pos c]; rfl
  rw [if_neg (by exact c), if_neg c, if_pos rfl, y_isWordA hG h (k := 7) (by decide) a3, cs]
  by_cases c : qx bs i = 7
  · rw [if_pos (by exact c), if_pos c]; rfl
  rw [if_neg (by exact c), if_neg c, if_pos rfl, y_isWordA hG h (k := 6) (by decide) a1, cs]
  by_cases c : qx bs i = 6
  · rw [if_pos (by exact c), if_pos c]; rfl
  rw [if_neg (by exact c), if_neg c, if_pos rfl, y_isWordA hG h (k := 14) (by decide) d2, cs]
  by_cases c : qx bs i = 14
  · rw [if_pos (by exact c), if_pos c]; rfl
  rw [if_neg (by exact c), if_neg c, if_pos rfl, y_isWordA hG h (k := 15) (by decide) d3, cs]
  by_cases c : qx bs i = 15
  · rw [if_pos (by exact c), if_pos c]; rfl
  rw [if_neg (by exact c), if_neg c, if_pos rfl, y_isWordA hG h (k := 16) (by decide) d4, cs]
  by_cases c : qx bs i = 16
  · rw [if_pos (by exact c), if_pos c]; rfl
  rw [if_neg (by exact c), if_neg c, if_pos rfl, y_isWordA hG h (k := 17) (by decide) d5, cs]
  by_cases c : qx bs i = 17
  · rw [if_pos (by exact c), if_pos c]; rfl
  rw [if_neg (by exact c), if_neg c]; rfl
theorem wv_0 {q : Int} : (J (wv q) = 0) = ¬ (q = 17 ∨ isGv q = true) := by
  have hb : wv q < 1000 := by unfold wv; (repeat' split) <;> decide
  have e : (J (wv q : Nat) = 0) = (wv q = 0) := by
    rw [show (0 : Int32) = J 0 from rfl, show (J (wv q : Nat) = J 0) = ((wv q : Int) = 0) by rw [J_eq (by omega) (by omega) (by omega) (by omega)]]
    exact propext ⟨fun h => by omega, fun h => by omega⟩
  rw [e]
  unfold wv isGv
  apply propext
  rw [decide_eq_true_eq]
  (repeat' split) <;> omega
theorem wv_mch {q : Int} (h : isGv q = true) : J (wv q) = J (mch q.toNat) := by
  unfold isGv at h
  rw [decide_eq_true_eq] at h
  rcases h with h | h | h | h | h | h <;> (rw [h]; rfl)
end
