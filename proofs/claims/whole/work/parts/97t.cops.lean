/-! CLASS: FEWEST, FREE, LEAST, RICHEST, SPARE -/
theorem ways_pos {R H : Nat} (hR : R ≤ 4) (hH : H ≤ 6) (hRH : 0 < H → 0 < R) : 1 ≤ ways R H := by
  rcases ways_le hR hH with h | h
  · exact h
  · have : H = 0 := by omega
    subst this; exact Nat.le_refl 1
def manyP (T : Tn) : Prop := 6 < tH T ∨ 4 < tR T
def lng (T : Tn) (r n : Nat) : Tn := (T.1, (fun k => if k = r then T.2.1 k + n else T.2.1 k), T.2.2)
/-- all that can be come to, in the order in which it is met -/
noncomputable def FA (T : Tn) (L : Ar) : List Nd := FQ T 60480 L
theorem FA_big {T : Tn} {m : Nat} {L0 : Ar} (w0 : WA (tR T) (tH T) L0) (hH : tH T ≤ 8) (hRH : 0 < tH T → 0 < tR T) (h60 : ways (tR T) (tH T) ≤ 60480) (hm : 60480 ≤ m) : FQ T m L0 = FA T L0 := FQ_big w0 hH hRH h60 hm
theorem FA_lim {T : Tn} {m : Nat} {L0 : Ar} {p : Ar → Prop} (w0 : WA (tR T) (tH T) L0) (hH : tH T ≤ 8) (hRH : 0 < tH T → 0 < tR T) (h60 : ways (tR T) (tH T) ≤ 60480) (hm : m ≤ 60480) : ((∀ j, fmt p (FQ T m L0) = some j → fmt p (FA T L0) = some j ∧ dep (FA T L0) j ≤ m) ∧ (fmt p (FQ T m L0) = none → ∀ j, fmt p (FA T L0) = some j → m < dep (FA T L0) j)) ∧ FQ T m L0 <+: FA T L0 := ⟨fmt_lim w0 hH hRH h60 hm, (FQ_lim w0 hH hRH h60 hm).1⟩
theorem FA_QW {T : Tn} {L0 : Ar} (w0 : WA (tR T) (tH T) L0) : QW T L0 (FA T L0) := FQ_QW w0
noncomputable def rowS (T : Tn) (L : Ar) (p : Ar → Prop) : Option (List Nat) := (fmt p (FA T L)).map fun j => rowTo (FA T L) j
def outV : Option (List Nat) → Int × List Nat
  | none => (-1, [])
  | some r => (r.length, r)
noncomputable def fewV (T : Tn) (L : Ar) (gl : List Nat) : Int × List Nat := pick (manyP T) (-2, []) (outV (rowS T L (pM (0, gl, 0))))
noncomputable def freV (T : Tn) (L : Ar) (z : Int) : Int × List Nat := pick (0 ≤ z ∧ z < tH T) (pick (manyP T) (-2, []) (outV (rowS T L (pM (1, [], z.toNat))))) (-1, [])
noncomputable def ricV (T : Tn) (L : Ar) (z : Int) : Int × List Nat := pick (0 ≤ z ∧ z ≤ 30 ∧ ¬ manyP T) ((bestF T (arrs (FQ T z.toNat L))).2.1, rowTo (FQ T z.toNat L) (bestF T (arrs (FQ T z.toNat L))).1.toNat) (-1000000, [])
noncomputable def leaK (T : Tn) (L : Ar) (p : Ar → Prop) : Option Ky := @dite _ (∃ k, Least T L p k) (Classical.propDecidable _) (fun h => some (Classical.choose h)) (fun _ => none)
theorem leaK_some {T : Tn} {L : Ar} {p : Ar → Prop} {k : Ky} (h : Least T L p k) : leaK T L p = some k := by
  have hx : ∃ k, Least T L p k := ⟨k, h⟩
  unfold leaK
  rw [dif_pos hx, Least_one (Classical.choose_spec hx) h]
theorem leaK_none {T : Tn} {L : Ar} {p : Ar → Prop} (h : ∀ r L' w, RwR T L r L' w → ¬ p L') : leaK T L p = none := by
  unfold leaK
  rw [dif_neg]
  rintro ⟨k, ⟨r, L', w, h1, h2, -⟩, -⟩
  exact h r L' w h1 h2
def outK : Option Ky → Int × List Nat
  | none => (-1, [])
  | some k => (k.1, k.2.reverse)
noncomputable def leaV (T : Tn) (L : Ar) (gl : List Nat) : Int × List Nat := pick (manyP T) (-2, []) (outK (leaK T L (pM (0, gl, 0))))
noncomputable def spG (p : Ar → Prop) (Q : List Nd) (b : Int × Nat) (r : Nat) : Int × Nat := match fmt p Q with
  | none => b
  | some j => if dep Q j < b.2 then ((r : Int), dep Q j) else b
noncomputable def spS (T : Tn) (L : Ar) (gl : List Nat) (n : Nat) (b : Int × Nat) (r : Nat) : Int × Nat := spG (pM (0, gl, 0)) (FA (lng T r n) L) b r
noncomputable def spF (T : Tn) (L : Ar) (gl : List Nat) (n k : Nat) : Int × Nat := (List.range k).foldl (spS T L gl n) (-1, 1000000)
noncomputable def sprV (T : Tn) (L : Ar) (gl : List Nat) (n w : Int) : Int := pick (1 ≤ n ∧ n ≤ 99 ∧ 0 ≤ w ∧ w ≤ 1 ∧ ¬ manyP T) (if (spF T L gl n.toNat (tR T)).1 = -1 then -1 else if w = 0 then (spF T L gl n.toNat (tR T)).1 else (spF T L gl n.toNat (tR T)).2) (-1)
/-- the row to the j-th that was found, as Found holds it -/
def RTo (M : rhM) (F cp : Nat) (T : Tn) (Q : List Nd) (j : Nat) : Prop := nm (tR T) (tH T) ((arrs Q).getD j []) < cp ∧ PD M F (nm (tR T) (tH T) ((arrs Q).getD j [])) (rowTo Q j).length ∧ Pth M F cp (nm (tR T) (tH T) ((arrs Q).getD j [])) (rowTo Q j).reverse ∧ (rowTo Q j).length = dep Q j ∧ (rowTo Q j).length ≤ 60480
theorem rowTo_len {T : Tn} {L0 : Ar} {Q : List Nd} (hQW : QW T L0 Q) {M : rhM} {F cp : Nat} (hQc : Q.length ≤ cp) (hcp : cp ≤ 60480) (h4 : tR T ≤ 4) (h6 : tH T ≤ 6) (hRH : 0 < tH T → 0 < tR T) (hcw : ways (tR T) (tH T) ≤ cp) (hN : FN M F (tR T) (tH T) Q) {j : Nat} (hj : j < Q.length) : RTo M F cp T Q j := by
  obtain ⟨q, hq⟩ : ∃ q, Q[j]? = some q := ⟨Q[j], List.getElem?_eq_getElem hj⟩
  have hd : dep Q j = q.2.2.2 := by unfold dep; rw [hq]
  obtain ⟨y1, y2⟩ := Pth_Q hcp h4 h6 hRH hcw hQW hQc hN (dep Q j) j q hq hd.symm
  obtain ⟨z1, z2, z3⟩ := PD_Q hcp h4 h6 hRH hcw hQW hQc hN hq
  have e : (rowTo Q j).length = dep Q j := y2
  unfold RTo
  rw [arrs_gd hq, e, hd]
  exact ⟨z1, z3, y1, rfl, z2⟩
theorem RTo.pre {T : Tn} {L0 : Ar} {A B : List Nd} {M : rhM} {F cp j : Nat} (hp : A <+: B) (hA : QW T L0 A) (hj : j < A.length) (h : RTo M F cp T A j) : RTo M F cp T B j := by
  obtain ⟨q, hq⟩ : ∃ q, A[j]? = some q := ⟨A[j], List.getElem?_eq_getElem hj⟩
  have hq2 : B[j]? = some q := by rw [← hq]; exact pre_get' hp hj
  unfold RTo at *
  rw [arrs_gd hq] at h
  rw [arrs_gd hq2, rowTo_pre hp hA hj, pre_dep hp hj]
  exact h
section
variable {Γ : rhG} {M : rhM} {t t' : Nat} {T : Tn} {L : Ar}
theorem CD0.mv {M' : rhM} {ly : List Nat} {c C cp e : Nat} (h : CD0 Γ M ly c C cp e) (h51 : M'.1 51 = M.1 51) (hc : M'.1 c = M.1 c) (hr : M'.2.2 51 0 = M.2.2 51 0) : CD0 Γ M' ly c C cp e := by
  obtain ⟨a1, a2, a3, a4, a5, a6, a7, a8, a9⟩ := h
  exact ⟨by rw [hr]; exact a1, a2, a3, a4, a5, by rw [h51]; exact a6, a7, by rw [hc]; exact a8, a9⟩
theorem rs2_o {S : Nat} {a : Nat} (h : a ≠ S) (h2 : a ≠ S + 11) : (rs2 M S t).2.2 a = M.2.2 a := by
  funext k; exact rs2_ne (fun e => h e.1) (fun e => h2 e.1)
/-- where a search writes -/
def WIn (S F t : Nat) (W : List Nat) : Prop := ∀ r, r ∈ W → r = t + 9 ∨ r = t + 10 ∨ (S ≤ r ∧ r ≤ S + 22) ∨ (F ≤ r ∧ r ≤ F + 5)
theorem KP_sp {M' : rhM} {S F : Nat} {W : List Nat} (ht : t = 11 ∨ t = 22) (hS : 183 ≤ S) (hF2 : 183 ≤ F) (hW : WIn S F t W) (hF : Fr W (rs2 M S t) M') : KP [0, 12] M M' ∧ KC M M' := by
  have hid : ∀ r, r ∈ W → r ≠ 1 ∧ r ≠ 55 ∧ r ≠ 102 ∧ idl.getD r 12 ∈ ([0, 12] : List Nat) := fun r hr => by
    rcases hW r hr with e | e | e
    · rcases ht with e2 | e2 <;> (rw [e, e2]; decide)
    · rcases ht with e2 | e2 <;> (rw [e, e2]; decide)
    · exact ⟨by omega, by omega, by omega, by rw [id_big (by omega)]; decide⟩
  refine ⟨⟨fun r k hn => ?_, fun r k hn => ?_, fun r k hn => ?_⟩, fun r r1 r2 => ?_⟩
  · by_cases e : r ∈ W
    · obtain ⟨e1, e2, e3, e4⟩ := hid r e
      exact absurd (by rw [idc_cell e1 e2 e3]; exact e4) hn
    · rw [(hF.2 r e).1]; rfl
  · by_cases e : r ∈ W
    · obtain ⟨e1, e2, e3, e4⟩ := hid r e
      exact absurd (by rw [idL_cell e1 e3]; exact e4) hn
    · rw [(hF.2 r e).2]; rfl
  · rw [hF.1]
    by_cases e : 165 ≤ r
    · exact absurd (by rw [idR, if_neg (by omega)]; simp) hn
    · rw [rs2_o (by omega) (by omega)]
  · have e : r ∉ W := fun e => by rcases hW r e with e | e | e <;> rcases ht with e2 | e2 <;> omega
    refine ⟨by rw [(hF.2 r e).1]; rfl, by rw [(hF.2 r e).2]; rfl, by rw [hF.1, rs2_o (by omega) (by omega)]⟩
theorem CD0.sp {M' : rhM} {S F c C cp cp' Ln e : Nat} {W ly : List Nat} (ht : t = 11 ∨ t = 22) (hW : WIn S F t W) (hF : Fr W (rs2 M S t) M') (h : CD0 Γ M ly c C cp e) (hSE : SE Γ M c S F cp' Ln) : CD0 Γ M' ly c C cp e := by
  have h2 := h.2.1
  obtain ⟨s1, s2, s3, s3', s4, s4', s5, -⟩ := hSE
  have hf := s5.F183
  have n51 : 51 ∉ W := fun e => by rcases hW 51 e with e | e | e <;> rcases ht with e2 | e2 <;> omega
  have nc : c ∉ W := fun e => by rcases hW c e with e | e | e <;> rcases ht with e2 | e2 <;> omega
  exact h.mv ((hF.2 51 n51).1) ((hF.2 c nc).1) (by rw [hF.1, rs2_o (by omega) (by omega)])
theorem SE.sp {M' : rhM} {S F c cp Ln : Nat} {W : List Nat} (hF : Fr W (rs2 M S t) M') (h : SE Γ M c S F cp Ln) (hS : SI Γ M' S F t cp Ln T) (h4 : tR T ≤ 4) (h6 : tH T ≤ 6) : SE Γ M' c S F cp Ln := by
  obtain ⟨s1, s2, s3, s3', s4, s4', s5, s6, s7⟩ := h
  exact ⟨by rw [hF.1, rs2_o (by omega) (by omega)]; exact s1, s2, s3, s3', s4, s4', hS.1, hS.2.2.2.2.2.2, tR T, tH T, by omega, h6, hS.2.2.2.2.2.1⟩
theorem W2_in {S F : Nat} : WIn S F t (W2 S F t) := by
  intro r hr
  unfold W2 at hr
  simp only [List.mem_cons, List.not_mem_nil, or_false] at hr
  omega
theorem BM.p {S : Nat} {md : Md} {l : List Ar} (h : BM M S T md l) : BMp M S T md := ⟨h.1, h.2.1, h.2.2.1, h.2.2.2.1⟩
theorem c_sprd {S F c C cp Ln : Nat} {ly : List Nat} {md : Md} (htt : t = 11 ∨ t = 22) (hts : TSh Γ M t) (hT : TC M t T) (hw : TWf T) (hRH : 0 < tH T → 0 < tR T) (h4 : tR T ≤ 4) (h6 : tH T ≤ 6) (wL : WA (tR T) (tH T) L) (h0 : CD0 Γ M ly c C cp 0) (hSE : SE Γ M c S F cp Ln) (hcw : ways (tR T) (tH T) ≤ cp) (hmd : BMp M S T md) {z : Int} {most : Nat} (hz : z.toNat = most) (hz2 : z < 2147483648) (hz3 : -2147483648 ≤ z) (Qp : Int32 × rhM → Prop)
    (hN : ∀ M', Fr (W2 S F t) (rs2 M S t) M' → CD0 Γ M' ly c C cp 0 → SE Γ M' c S F cp Ln → BMp M' S T md → (∀ j, j < (FQ T most L).length → RTo M' F cp T (FQ T most L) j) → fmt (pM md) (FQ T most L) = none → M'.1 S 10 = J (if md.1 = 2 then bst T (arrs (FQ T most L)) else -1) → M'.1 S 0 = J (if md.1 = 2 then (bestF T (arrs (FQ T most L))).2.1 else 0) → Qp (M'.1 S 10, M'))
    (hM : ∀ M' j, Fr (W2 S F t) (rs2 M S t) M' → CD0 Γ M' ly c C cp 0 → SE Γ M' c S F cp Ln → BMp M' S T md → fmt (pM md) (FQ T most L) = some j → RTo M' F cp T (FQ T most L) j → Qp (J (nm (tR T) (tH T) ((arrs (FQ T most L)).getD j []) : Nat), M')) :
    wp (f_X5_spread Γ M S t (jl (wn L)) (J z)) Qp := by
  have h60 := ways_max h4 h6
  obtain ⟨s1, s2, s3, s3', s4, s4', s5, s6, s7⟩ := id hSE
  have hcp := s5.F183.2.2.2.1
  have d : t + 10 < S := by omega
  refine c_spread hw h4 h6 hRH d hcw h60 s5 s6 s7 hts hT wL hmd hz hz2 hz3 Qp (fun M' hF hG hf hj => ?_) (fun M' Q' j L' hF hp hl hL' hf hG hj => ?_)
  · have hQ := hG.2.1
    have hlen := hQ.len hw.2.1 hRH
    exact hN M' hF (h0.sp htt W2_in hF hSE) (hSE.sp hF hG.1 h4 h6) hG.2.2.2.p (fun j hjl => rowTo_len hQ (by omega) hcp h4 h6 hRH hcw hG.2.2.1.1 hjl) hf hG.2.2.2.2.2.2.2.1 hG.2.2.2.2.2.2.2.2
  · have hQ := hG.2.1
    have hlen := hQ.len hw.2.1 hRH
    have hjl : j < Q'.length := by omega
    have hr := (rowTo_len hQ (cp := cp) (by omega) hcp h4 h6 hRH hcw hG.2.2.1.1 hjl).pre hp hQ hjl
    have hg : (arrs (FQ T most L)).getD j [] = L' := by
      obtain ⟨q, hq⟩ : ∃ q, Q'[j]? = some q := ⟨Q'[j], List.getElem?_eq_getElem hjl⟩
      have hq2 : (FQ T most L)[j]? = some q := by rw [← hq]; exact pre_get' hp hjl
      rw [arrs_get hq] at hL'
      rw [arrs_gd hq2]; exact Option.some.inj hL'
    have := hM M' j hF (h0.sp htt W2_in hF hSE) (hSE.sp hF hG.1 h4 h6) hG.2.2.2.p (fmt_pre hp hf) hr
    rw [hg] at this
    exact this
theorem c_isSpent (hG : GK Γ) (hC : CR M) (hT : C3 M t t' T) (hw : TWf T) : f_X11_isSpent Γ M 1 = some (bi (manyP T)) := by
  have w1 := hw.1
  have w2 := hw.2.1
  unfold manyP
  rw [f_X11_isSpent, rhck_t (GKk1 hG), hT.2.1, rhck_t (hT.ts hG hC).1, hT.2.2.2.2.1, hT.2.2.2.1, show (6 : Int32) = J 6 from rfl, show (4 : Int32) = J 4 from rfl]
  by_cases c : 6 < tH T
  · rw [if_pos (by rw [J_lt (by omega) (by omega) (by omega) (by omega)]; omega), bi_t (Or.inl c)]
  · rw [if_neg (by rw [J_lt (by omega) (by omega) (by omega) (by omega)]; omega)]
    by_cases c2 : 4 < tR T
    · rw [if_pos (by rw [J_lt (by omega) (by omega) (by omega) (by omega)]; omega), bi_t (Or.inr c2)]
    · rw [if_neg (by rw [J_lt (by omega) (by omega) (by omega) (by omega)]; omega), bi_f (by omega)]
theorem c_clear51 (hG : GK Γ) {ly : List Nat} (h : CD Γ M ly) : wp (f_X3_clear Γ M 51) (fun M' => KP [8] M M' ∧ KC M M' ∧ CD Γ M' []) := by
  rw [c_clear (GKk51 hG), wp_some]
  have k : KP [8] M (rhsi (rhsi M 51 1 0) 51 2 0) := ((KP.refl _ _).si _ (by decide)).si _ (by decide)
  refine ⟨k, ((KC.refl _).si _ (by decide)).si _ (by decide), ?_⟩
  have hc : ∀ {c C cp e : Nat}, CD0 Γ M ly c C cp e → CD0 Γ (rhsi (rhsi M 51 1 0) 51 2 0) [] c C cp e := fun h => by
    obtain ⟨a1, a2, a3, a4, a5, a6, a7, a8, a9⟩ := h
    exact ⟨a1, a2, a3, a4, a5, by rw [si_1, if_neg (by omega), si_1, if_pos ⟨rfl, rfl⟩]; rfl, by rw [List.length_nil]; omega, trivial, a9⟩
  obtain ⟨c, C, ⟨s1, s2⟩ | ⟨S, F, cp, Ln, s1, s2⟩⟩ := h
  · exact ⟨c, C, Or.inl ⟨s1, hc s2⟩⟩
  · exact ⟨c, C, Or.inr ⟨S, F, cp, Ln, hc s1, s2.kp k (by decide)⟩⟩
/-- what a question's search ends with -/
def Aft (Γ : rhG) (M : rhM) (ids : List Nat) (ly : List Nat) (v : Int32) (x : Int32 × rhG × rhM) : Prop := x.1 = v ∧ OldG Γ x.2.1 ∧ KP ids M x.2.2 ∧ KC M x.2.2 ∧ CD x.2.1 x.2.2 ly
theorem KP_S {S k : Nat} (hS : 183 ≤ S) {M' : rhM} (h : KP [12] M M') (v : Int32) : KP [12] M (rhsi M' S k v) := h.si _ (by
  rw [idc_cell (by omega) (by omega) (by omega), id_big hS]; decide)
theorem KP_SL {S k : Nat} (hS : 183 ≤ S) {M' : rhM} (h : KP [12] M M') (v : Int64) : KP [12] M (rhsl M' S k v) := h.sl _ (by
  rw [idL_cell (by omega) (by omega), id_big hS]; decide)
/-- only the numbers of the Search itself change -/
theorem CD0.S {M' : rhM} {ly : List Nat} {c C cp S F cp' Ln e : Nat} (h : CD0 Γ M ly c C cp e) (hSE : SE Γ M c S F cp' Ln) (hi : ∀ y, y ≠ S → M'.1 y = M.1 y) (hr : M'.2.2 = M.2.2) : CD0 Γ M' ly c C cp e := by
  obtain ⟨s1, s2, s3, s3', s4, -⟩ := hSE
  exact h.mv (hi 51 (by omega)) (hi c (by omega)) (by rw [hr])
theorem SE.S {M' : rhM} {c S F cp Ln : Nat} (h : SE Γ M c S F cp Ln) (hi : ∀ y, y ≠ S → M'.1 y = M.1 y) (hr : M'.2.2 = M.2.2) : SE Γ M' c S F cp Ln := by
  obtain ⟨s1, s2, s3, s3', s4, s4', s5, s6, s7⟩ := h
  have hf := s5.F183
  exact ⟨by rw [hr]; exact s1, s2, s3, s3', s4, s4', s5.mv (fun _ _ => ⟨rfl, rfl⟩) (fun _ _ => by rw [hr]), by rw [hi F (by omega)]; exact s6, s7.mv (fun r r1 r2 => hi r (by omega))⟩
theorem SE.top {M' : rhM} {c S F cp Ln : Nat} (h : SE Γ M c S F cp Ln) (hi : ∀ y, 183 ≤ y → M'.1 y = M.1 y) (hr : M'.2.2 = M.2.2) : SE Γ M' c S F cp Ln := by
  obtain ⟨s1, s2, s3, s3', s4, s4', s5, s6, s7⟩ := h
  have hf := s5.F183
  exact ⟨by rw [hr]; exact s1, s2, s3, s3', s4, s4', s5.mv (fun _ _ => ⟨rfl, rfl⟩) (fun _ _ => by rw [hr]), by rw [hi F (by omega)]; exact s6, s7.mv (fun r r1 r2 => hi r (by omega))⟩
theorem c_seekRow {S F c cp Ln : Nat} {gl : List Nat} (hSE : SE Γ M c S F cp Ln) (hg : ∀ h, h ∈ gl → h < tH T) (hl : gl.length ≤ tH T) (h8 : tH T ≤ 8) : wp (f_X5_seekRow Γ M S (jl (dg gl)) (J gl.length)) (fun M' => KP [12] M M' ∧ KC M M' ∧ (∀ y, y ≠ S → M'.1 y = M.1 y) ∧ M'.2.2 = M.2.2 ∧ BMp M' S T (0, gl, 0)) := by
  obtain ⟨s1, s2, s3, s3', s4, s4', s5, s6, s7⟩ := hSE
  rw [f_X5_seekRow, wp_ck_t s5.1]
  dsimp only
  rw [c_ones (by omega), wp_bind, wp_some, wp_some]
  refine ⟨KP_SL s2 (KP_SL s2 (KP_S s2 (KP.refl _ _) _) _) _, (((KC.refl _).si _ (by omega)).sl _ (by omega)).sl _ (by omega), fun y hy => ?_, rfl, ?_, Nat.zero_le _, fun _ => ⟨?_, ?_, fun z hz => by have := hg z hz; omega, hl⟩, fun h => absurd (show (0 : Nat) = 1 from h) (by decide)⟩
  · rw [sl_1, sl_1]; funext k; rw [si_1, if_neg (by omega)]
  · rw [sl_1, sl_1, si_1, if_pos ⟨rfl, rfl⟩]; rfl
  · rw [sl_2, if_neg (by omega), sl_2, if_pos ⟨rfl, rfl⟩]
  · rw [sl_2, if_pos ⟨rfl, rfl⟩]
theorem c_fewest (hG : GK Γ) (hC : CR M) (hT : C3 M t t' T) (hw : TWf T) (hRH : 0 < tH T → 0 < tR T) (h4 : C4 M (tR T) L) (wL : WA (tR T) (tH T) L) {gl ly : List Nat} (h7 : C7 M gl) (hnd : gl.Nodup) (hg : ∀ h, h ∈ gl → h < tH T) (hCD : CD Γ M ly) : wp (f_X11_fewest Γ M 1) (Aft Γ M [0, 8, 12] (fewV T L gl).2 (J (fewV T L gl).1)) := by
  have w2 := hw.2.1
  have htt := hT.tt
  unfold fewV
  rw [f_X11_fewest, wp_ck_t (GKk1 hG), CR1_9 hC, wp_ck_t (GKk51 hG), wp_bind]
  refine (c_clear51 hG hCD).mono (fun M1 q => ?_)
  obtain ⟨k1, kc1, hD1⟩ := q
  have hC1 := hC.kp k1 (by decide)
  have hT1 := hT.kp k1 (by decide)
  rw [c_isSpent hG hC1 hT1 hw, wp_bind, wp_some]
  by_cases c : manyP T
  · rw [bi_t c, wp_ite_f (by decide), wp_some, pick_t c]
    exact ⟨rfl, OldG.refl _, k1.sub (by decide), kc1, hD1⟩
  rw [bi_f c, wp_ite_t rfl, wp_bind, pick_f c]
  have hr4 : tR T ≤ 4 := by unfold manyP at c; omega
  have hh6 : tH T ≤ 6 := by unfold manyP at c; omega
  refine (c_ready hG hC1 hT1 hw hRH hr4 hh6 hD1).mono (fun r2 q => ?_)
  obtain ⟨o2, k2, kc2, cc, CC, cp, S, F, Ln, h02, hSE2, hcw⟩ := q
  have hf2 := hSE2.2.2.2.2.2.2.1.F183
  have hG2 := o2.gk hG
  have k12 := (k1.sub (ids' := [0, 8, 12]) (by decide)).trans (k2.sub (by decide))
  have hC2 := hC1.kp k2 (by decide)
  have hT2 := hT1.kp k2 (by decide)
  have h72 := (h7.kp k1 (by decide)).kp k2 (by decide)
  have h42 := (h4.kp k1 (by decide)).kp k2 (by decide)
  have hl := nd8 hnd hg
  rw [wp_ck_t (GKk1 hG2), hSE2.1, wp_ck_t hSE2.2.2.2.2.2.2.1.1, h72.2, h72.1, wp_bind]
  refine (c_seekRow hSE2 hg hl w2).mono (fun M3 q => ?_)
  obtain ⟨k3, kc3, i3, r3, b3⟩ := q
  have hC3 := hC2.kp k3 (by decide)
  have hT3 := hT2.kp k3 (by decide)
  have h43 := h42.kp k3 (by decide)
  have h03 := h02.S hSE2 i3 r3
  have hSE3 := hSE2.S i3 r3
  rw [CR1_5 hC3, wp_ck_t (GKk33 hG2), hSE3.1, wp_ck_t hSE3.2.2.2.2.2.2.1.1, hT3.2.1, h43.1, wp_bind, show (1000000 : Int32) = J 1000000 from rfl]
  have hQb : FQ T 1000000 L = FA T L := FA_big wL w2 hRH (ways_max hr4 hh6) (by omega)
  refine c_sprd (md := (0, gl, 0)) (most := 1000000) htt (hT3.ts hG2 hC3) hT3.2.2.2 hw hRH hr4 hh6 wL h03 hSE3 hcw b3 rfl (by omega) (by omega) _ (fun M4 hF h04 hSE4 b4 _ hf h11 _ => ?_) (fun M4 j hF h04 hSE4 b4 hf hr => ?_)
  · obtain ⟨k4, kc4⟩ := KP_sp htt hSE3.2.1 (show 183 ≤ F by omega) W2_in hF
    rw [hQb] at hf
    unfold rowS
    have h11' : M4.1 S 10 = -1 := by rw [h11, if_neg (show ¬ ((0 : Nat), gl, (0 : Nat)).1 = 2 from (by show ¬ (0 : Nat) = 2; decide))]; rfl
    rw [hf, h11']
    dsimp only
    rw [f_X11_lay, wp_bind, wp_ite_t rfl, wp_some, wp_some]
    exact ⟨rfl, o2, (k12.trans (k3.sub (by decide))).trans (k4.sub (by decide)), ((kc1.trans kc2).trans kc3).trans kc4, cc, CC, Or.inr ⟨S, F, cp, Ln, h04, hSE4⟩⟩
  · obtain ⟨k4, kc4⟩ := KP_sp htt hSE3.2.1 (show 183 ≤ F by omega) W2_in hF
    have hC4 := hC3.kp k4 (by decide)
    rw [hQb] at hf hr ⊢
    unfold rowS
    obtain ⟨Q, hQ⟩ : ∃ Q, FA T L = Q := ⟨_, rfl⟩
    rw [hQ] at hf hr ⊢
    rw [hf, wp_bind]
    have hlr : ((rowTo Q j).reverse).length = (rowTo Q j).length := List.length_reverse
    obtain ⟨e1, e2, e3, e4, e5⟩ := hr
    obtain ⟨rr, hrr⟩ : ∃ l, (rowTo Q j).reverse = l := ⟨_, rfl⟩
    rw [hrr] at e3 hlr
    rw [← hlr] at e2 e5
    refine (c_lay hG2 hC4 h04 hSE4 e1 (r := rr) e5 e2 e3).mono (fun x q => ?_)
    obtain ⟨x1, x2, x3, x4, -, c', C', x5, x6⟩ := q
    rw [wp_some]
    have kx : KP [0, 8, 12] M x.2.2 := ((k12.trans (k3.sub (by decide))).trans (k4.sub (by decide))).trans (x3.sub (by decide))
    have kcx : KC M x.2.2 := (((kc1.trans kc2).trans kc3).trans kc4).trans x4
    refine ⟨?_, o2.trans x2, kx, kcx, c', C', Or.inr ⟨S, F, cp, Ln, ?_, x6⟩⟩
    · dsimp only
      rw [x1, hlr, Option.map_some, outV]
    · rw [← hrr, List.reverse_reverse] at x5
      rw [Option.map_some, outV]
      dsimp only
      exact x5
end
