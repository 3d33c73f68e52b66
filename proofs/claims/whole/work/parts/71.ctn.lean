/-! THE CLASS'S TOWN: what it says of sets of houses -/
def cl (H S : Nat) : List Nat := (List.range H).filter fun h => S.testBit h
theorem cl_mem {H S x : Nat} : x ∈ cl H S ↔ x < H ∧ S.testBit x = true := by simp [cl]
theorem cl_nodup (H S : Nat) : (cl H S).Nodup := List.Pairwise.sublist List.filter_sublist List.nodup_range
theorem cl_perm {H : Nat} {l : List Nat} (nd : l.Nodup) (hl : ∀ x, x ∈ l → x < H) : (cl H (ss l)).Perm l := by
  rw [List.perm_ext_iff_of_nodup (cl_nodup _ _) nd]
  intro a
  rw [cl_mem, ss_bit, decide_eq_true_eq]
  exact ⟨fun h => h.2, fun h => ⟨hl a h, h⟩⟩
theorem WA.nd {R H : Nat} {L : Ar} (w : WA R H L) {r : Nat} (h : r < R) : (rl L r).Nodup := by
  have h1 : (fl [] L).Nodup := w.2.nodup_iff.mpr List.nodup_range
  obtain ⟨e, -, -⟩ := fl_split [] (L := L) (r := r) (by rw [w.1]; exact h)
  rw [e] at h1
  refine List.Pairwise.sublist ?_ h1
  rw [List.nil_append]
  exact (List.sublist_append_left _ _).trans (List.sublist_append_right _ _)
theorem WA.sgnd {R H : Nat} {L : Ar} (w : WA R H L) {r m : Nat} (h : r < R) : (sg L r m).Nodup := List.Pairwise.sublist (List.drop_sublist _ _) (w.nd h)
def givL (T : Tn) (f : Nat) (l : List Nat) (t : Nat) (l' : List Nat) (k : Nat) : Int :=
  if k = 6 then sm (tl T) l else if k = 7 then sm (tw T) l else if k = 13 then l.length else if k = 14 then f else if k = 15 then t else tL T t - sm (tl T) l'
def comL (T : Tn) (f : Nat) (l : List Nat) (t : Nat) (l' : List Nat) : Int32 := (lawR (givL T f l t l') l (tC T) []).headD 1
def alw (T : Tn) (f : Nat) (l : List Nat) (t : Nat) (l' : List Nat) : Prop := sm (tl T) l ≤ tN T ∧ sm (tw T) l ≤ tD T ∧ (sm (tl T) l : Int) ≤ tL T t - sm (tl T) l' ∧ comL T f l t l' ≠ 0
theorem comes_L (T : Tn) {L : Ar} {f m t : Nat} (hm : m ≤ (rl L f).length) : comes T L f m t = comL T f (sg L f m) t (rl L t) := by
  unfold comes comL
  have : given T L f m t = givL T f (sg L f m) t (rl L t) := by
    funext k; unfold given givL room; rw [sg_len hm]
  rw [this]
theorem lawR_cong {g g' : Nat → Int} {s s' : List Nat} (hg : ∀ k, g k = g' k) (hs : ∀ x, x ∈ s ↔ x ∈ s') : ∀ (c : List (Nat × Nat)) (st : List Int32), lawR g s c st = lawR g' s' c st := by
  have e : g = g' := funext hg
  subst e
  have : ∀ o, lawP g s o = lawP g s' o := fun o => by unfold lawP; simp only [hs o.2]
  intro c
  induction c with
  | nil => intro st; rfl
  | cons o c ih => intro st; rw [lawR, lawR, ih]; congr 1; unfold lawS; rw [this]
theorem comL_perm (T : Tn) (f t : Nat) {l k l' k' : List Nat} (h : l.Perm k) (h' : l'.Perm k') : comL T f l t l' = comL T f k t k' := by
  unfold comL
  rw [lawR_cong (g' := givL T f k t k') (s' := k) (fun j => ?_) (fun x => h.mem_iff)]
  unfold givL
  rw [sm_perm _ h, sm_perm _ h, sm_perm _ h', h.length_eq]
theorem alw_perm (T : Tn) (f t : Nat) {l k l' k' : List Nat} (h : l.Perm k) (h' : l'.Perm k') : alw T f l t l' ↔ alw T f k t k' := by
  unfold alw
  rw [comL_perm T f t h h', sm_perm _ h, sm_perm _ h, sm_perm _ h']
theorem okP_alw (T : Tn) {L : Ar} {f m t : Nat} : okP T L f m t ↔ canB T L f m t ∧ alw T f (sg L f m) t (rl L t) := by
  unfold okP alw
  constructor
  · intro h; exact ⟨h.1, h.2.1, h.2.2.1, h.2.2.2.1, by rw [← comes_L T h.1.2.2.2.2]; exact h.2.2.2.2⟩
  · intro h; exact ⟨h.1, h.2.1, h.2.2.1, h.2.2.2.1, by rw [comes_L T h.1.2.2.2.2]; exact h.2.2.2.2⟩
def TSh (Γ : rhG) (M : rhM) (t : Nat) : Prop := Γ.2.2.1 t = 10 ∧ (Γ.2.2.1 (t + 1) = 15 ∧ Γ.2.2.2 (t + 1) = 5) ∧ (Γ.2.2.1 (t + 2) = 15 ∧ Γ.2.2.2 (t + 2) = 256) ∧ (Γ.2.2.1 (t + 3) = 15 ∧ Γ.2.2.2 (t + 3) = 256) ∧ (Γ.2.2.1 (t + 4) = 15 ∧ Γ.2.2.2 (t + 4) = 64) ∧ (Γ.2.2.1 (t + 5) = 17 ∧ Γ.2.2.2 (t + 5) = 64) ∧
  Γ.2.2.1 (t + 6) = 2 ∧ (Γ.2.2.1 (t + 7) = 15 ∧ Γ.2.2.2 (t + 7) = 512) ∧ (Γ.2.2.1 (t + 8) = 15 ∧ Γ.2.2.2 (t + 8) = 512) ∧ (Γ.2.2.1 (t + 9) = 15 ∧ Γ.2.2.2 (t + 9) = 64) ∧ (Γ.2.2.1 (t + 10) = 15 ∧ Γ.2.2.2 (t + 10) = 18) ∧
  (M.2.2 t 6 = t + 1 ∧ M.2.2 t 7 = t + 2 ∧ M.2.2 t 8 = t + 3 ∧ M.2.2 t 9 = t + 4 ∧ M.2.2 t 10 = t + 5 ∧ M.2.2 t 11 = t + 6) ∧ M.2.2 (t + 6) 2 = t + 7 ∧ M.2.2 (t + 6) 3 = t + 8 ∧ M.2.2 (t + 6) 4 = t + 9 ∧ M.2.2 (t + 6) 5 = t + 10
theorem TSh.fr {Γ : rhG} {M M' : rhM} {t : Nat} (h : TSh Γ M t) (hF : M'.2.2 = M.2.2) : TSh Γ M' t := by unfold TSh; rw [hF]; exact h
def TC (M : rhM) (t : Nat) (T : Tn) : Prop := M.1 t 0 = J (tR T) ∧ M.1 t 1 = J (tH T) ∧ M.1 t 2 = J (tN T) ∧ M.1 t 3 = J (tD T) ∧ M.2.1 t 5 = jl (wn (fst T)) ∧ (∀ r, r < tR T → M.1 (t + 1) r = J (tL T r)) ∧ (∀ S, S < 2 ^ tH T → M.1 (t + 2) S = J (sm (tl T) (cl (tH T) S))) ∧ (∀ S, S < 2 ^ tH T → M.1 (t + 3) S = J (sm (tw T) (cl (tH T) S))) ∧
  (∀ a b, a < tH T → b < tH T → M.1 (t + 4) (8 * a + b) = J (tW T a b)) ∧ M.1 (t + 6) 0 = J (tU T) ∧ M.1 (t + 6) 1 = J (tC T).length ∧ Sg (M.1 (t + 7)) 0 ((tC T).map fun o => o.1) ∧ Sg (M.1 (t + 8)) 0 ((tC T).map fun o => o.2)
theorem TC.fr {M M' : rhM} {t : Nat} {T : Tn} {W : List Nat} (h : TC M t T) (hF : Fr W M M') (hd : ∀ r, r ∈ [t, t + 1, t + 2, t + 3, t + 4, t + 6, t + 7, t + 8] → r ∉ W) : TC M' t T := by
  unfold TC
  rw [hF.i (hd t (by simp)), hF.l (hd t (by simp)), hF.i (hd (t + 1) (by simp)), hF.i (hd (t + 2) (by simp)), hF.i (hd (t + 3) (by simp)), hF.i (hd (t + 4) (by simp)), hF.i (hd (t + 6) (by simp)), hF.i (hd (t + 7) (by simp)), hF.i (hd (t + 8) (by simp))]
  exact h
section
variable {Γ : rhG} {M : rhM} {T : Tn} {L : Ar} {t : Nat}
theorem c_joined (k : Nat) (hk : isB k = true) (a c : Int32) : f_X1_joined Γ M (J k) a c = some (two k a c) := by
  have h1 : k = 43 ∨ k = 45 ∨ k = 42 ∨ k = 47 ∨ k = 60 ∨ k = 62 ∨ k = 61 ∨ k = 11 ∨ k = 10 := by
    simp only [isB, Bool.or_eq_true, beq_iff_eq] at hk; omega
  rcases h1 with rfl | rfl | rfl | rfl | rfl | rfl | rfl | rfl | rfl <;> simp only [two, f_X1_joined] <;> simp (config := { decide := true }) only [if_true, if_false] <;> repeat (first | rfl | split | (rw [rhck_t (by assumption)]))
theorem pc_ok : ∀ S, S < 256 → f_J6_bitCount_0f7a4 (0, 0, fun _ => 0, fun _ => 0) (fun _ _ => 0, fun _ _ => 0, fun _ _ => 0) (J (S : Nat)) = some (J ((cl 8 S).length : Nat)) := by decide +kernel
theorem pc_ok' {S : Nat} (h : S < 256) : f_J6_bitCount_0f7a4 Γ M (J S) = some (J (cl 8 S).length) := pc_ok S h
theorem cl_8 {H S : Nat} (hH : H ≤ 8) (hS : S < 2 ^ H) : cl 8 S = cl H S := by
  obtain ⟨d, hd⟩ : ∃ d, 8 = H + d := ⟨8 - H, by omega⟩
  rw [cl, hd, List.range_add, List.filter_append, cl]
  suffices h : ((List.range d).map fun x => H + x).filter (fun h => S.testBit h) = [] by rw [h, List.append_nil]
  rw [List.filter_eq_nil_iff]
  intro a ha
  rw [List.mem_map] at ha
  obtain ⟨b, -, rfl⟩ := ha
  rw [Nat.testBit_lt_two_pow (Nat.lt_of_lt_of_le hS (Nat.pow_le_pow_right (by decide) (by omega)))]
  decide
theorem c_given {k : Nat} : f_X1_isGiven Γ M (J k) = some (if k = 6 ∨ k = 7 ∨ (13 ≤ k ∧ k ≤ 16) then 1 else 0) ∨ 1000 < k := by
  by_cases h : 1000 < k
  · exact Or.inr h
  · left
    have : ∀ k, k < 1001 → f_X1_isGiven (0, 0, fun _ => 0, fun _ => 0) (fun _ _ => 0, fun _ _ => 0, fun _ _ => 0) (J (k : Nat)) = some (if k = 6 ∨ k = 7 ∨ (13 ≤ k ∧ k ≤ 16) then 1 else 0) := by decide +kernel
    exact this k (by omega)
set_option maxRecDepth 100000 in
theorem c_comes69 {q : Nat} {g : Nat → Int} {S : Nat} (hS : S < 256) {N : Nat} (hN : N ≤ 500) (k0 : Γ.2.2.1 q = 2) (k1 : Γ.2.2.1 (q + 1) = 15) (n1 : Γ.2.2.2 (q + 1) = 512) (k2 : Γ.2.2.1 (q + 2) = 15) (n2 : Γ.2.2.2 (q + 2) = 512) (k3 : Γ.2.2.1 (q + 3) = 15) (n3 : Γ.2.2.2 (q + 3) = 64) (k4 : Γ.2.2.1 (q + 4) = 15) (n4 : Γ.2.2.2 (q + 4) = 18) :
    ∀ (c : List (Nat × Nat)) (n : Nat) (M : rhM) (k : Nat) (st : List Int32), M.2.2 q 2 = q + 1 → M.2.2 q 3 = q + 2 → M.2.2 q 4 = q + 3 → M.2.2 q 5 = q + 4 → M.1 q 1 = J N → (∀ j, (j = 6 ∨ j = 7 ∨ (13 ≤ j ∧ j ≤ 16)) → M.1 (q + 4) j = J (g j)) →
    Stk (M.1 (q + 3)) st → lawD c st.length = some 1 → st.length ≤ 60 → Sg (M.1 (q + 1)) k (c.map fun o => o.1) → Sg (M.1 (q + 2)) k (c.map fun o => o.2) → (∀ o, o ∈ c → o.2 ≤ 9999 ∧ (o.1 = 17 → o.2 < 8)) → k + c.length = N → c.length < n →
    wp (f_X1_comesTo_69 Γ n M q (J S) (J st.length) (J k)) (fun r => r.1 = (lawR g (cl 8 S) c st).headD 1 ∧ Fr [q + 3] M r.2) := by
  intro c
  induction c with
  | nil =>
    intro n M k st r2 r3 r4 r5 hsz hgv hSt hD hd h1 h2 ho hk hn
    obtain ⟨n, rfl⟩ : ∃ k, n = k + 1 := ⟨n - 1, by simp only [List.length_nil] at hn; omega⟩
    simp only [lawD, Option.some.injEq] at hD
    match st, hD with
    | [x], _ =>
      simp only [List.length_nil] at hk
      rw [f_X1_comesTo_69]
      have h0 : M.1 (q + 3) 0 = x := hSt.1
      simp (disch := omega) only [wp_some, wp_ck_T, wp_ck_t, wp_bind, wp_ite_t, wp_ite_f, J_lit, J_neg, J_add, J_sub, J_mul, J_lt, J_le, J_eq, J_toInt, J_clamp, J_suc, si_1, si_2, sl_1, sl_2, sl_3, Int.toNat_natCast, Int.reduceToNat, Nat.add_sub_cancel, Int.toNat_add, Int.toNat_mul, Int.toNat_sub'', true_and, and_true, and_self, if_true, if_false, not_true, not_false_eq_true, k0, k3, n3, hsz, r4, h0]
      exact ⟨rfl, Fr.refl _ _⟩
  | cons o c ih =>
    intro n M k st r2 r3 r4 r5 hsz hgv hSt hD hd h1 h2 ho hk hn
    rw [List.length_cons] at hk hn
    obtain ⟨n, rfl⟩ : ∃ k, n = k + 1 := ⟨n - 1, by omega⟩
    have x1 : M.1 (q + 1) k = J o.1 := h1.1
    have x2 : M.1 (q + 2) k = J o.2 := h2.1
    have ho1 := ho o List.mem_cons_self
    rw [f_X1_comesTo_69]
    have step : ∀ (j : Nat) (v : Int32) (st' : List Int32), lawS g (cl 8 S) st o = v :: st' → j = st'.length → lawD c (st'.length + 1) = some 1 → st'.length + 1 ≤ 60 → Stk (M.1 (q + 3)) st' →
        wp (f_X1_comesTo_69 Γ n (rhsi M (q + 3) j v) q (J S) (J ((st'.length + 1 : Nat) : Int)) (J ((k + 1 : Nat) : Int))) (fun r => r.1 = (lawR g (cl 8 S) (o :: c) st).headD 1 ∧ Fr [q + 3] M r.2) := by
      intro j v st' e1 e2 e3 e4 e5
      have hF : Fr [q + 3] M (rhsi M (q + 3) j v) := (Fr.refl _ _).si (by simp) _ _
      refine (ih n (rhsi M (q + 3) j v) (k + 1) (v :: st') r2 r3 r4 r5 (by rw [hF.i (by simp)]; exact hsz) (fun j hj => by rw [hF.i (by simp)]; exact hgv j hj) ?_ e3 e4 (by rw [hF.i (by simp)]; exact h1.2) (by rw [hF.i (by simp)]; exact h2.2) (fun o ho' => ho o (List.mem_cons_of_mem _ ho')) (by omega) (by omega)).mono (fun r hr => ⟨?_, hF.trans hr.2⟩)
      · refine ⟨?_, Stk_cong st' (fun i hi => ?_) e5⟩
        · rw [si_1, if_pos ⟨rfl, e2.symm⟩]
        · rw [si_1, if_neg (by omega)]
      · rw [lawR, e1]; exact hr.1
    by_cases hp : isP o.1 = true
    · have hD2 : st.length < 60 ∧ lawD c (st.length + 1) = some 1 := by
        rw [lawD, if_pos hp] at hD
        split at hD
        · exact ⟨by assumption, hD⟩
        · cases hD
      have fin := fun v => step st.length v st
      have hls : lawS g (cl 8 S) st o = lawP g (cl 8 S) o :: st := by unfold lawS; rw [if_pos hp]
      have hc : o.1 = 48 ∨ o.1 = 17 ∨ (o.1 = 6 ∨ o.1 = 7 ∨ (13 ≤ o.1 ∧ o.1 ≤ 16)) := by
        simp only [isP, Bool.or_eq_true, beq_iff_eq] at hp; omega
      rcases hc with e | e | e
      · rw [e] at x1
        simp (disch := omega) only [wp_some, wp_ck_T, wp_ck_t, wp_bind, wp_ite_t, wp_ite_f, J_lit, J_neg, J_add, J_sub, J_mul, J_lt, J_le, J_eq, J_toInt, J_clamp, J_suc, si_1, si_2, sl_1, sl_2, sl_3, Int.toNat_natCast, Int.reduceToNat, Nat.add_sub_cancel, Int.toNat_add, Int.toNat_mul, Int.toNat_sub'', true_and, and_true, and_self, if_true, if_false, not_true, not_false_eq_true, f_X1_comesTo_260, k0, k1, n1, k2, n2, k3, n3, hsz, r2, r3, r4, x1, x2, show ((48 : Nat) : Int) = 48 from rfl]
        exact fin _ (by rw [hls]; unfold lawP; rw [if_pos e]) rfl hD2.2 (by omega) hSt
      · rw [e] at x1
        have hv := ho1.2 e
        have e1 := J_ush (k := S) (j := o.2) (by omega) (by omega)
        have e2 := J_and (S / 2 ^ o.2) 1
        rw [Nat.and_one_is_mod] at e2
        rw [show ((1 : Nat) : Int) = 1 from rfl] at e2
        simp (disch := omega) only [wp_some, wp_ck_T, wp_ck_t, wp_bind, wp_ite_t, wp_ite_f, J_lit, J_neg, J_add, J_sub, J_mul, J_lt, J_le, J_eq, J_toInt, J_clamp, J_suc, si_1, si_2, sl_1, sl_2, sl_3, Int.toNat_natCast, Int.reduceToNat, Nat.add_sub_cancel, Int.toNat_add, Int.toNat_mul, Int.toNat_sub'', true_and, and_true, and_self, if_true, if_false, not_true, not_false_eq_true, f_X1_comesTo_260, k0, k1, n1, k2, n2, k3, n3, hsz, r2, r3, r4, x1, x2, e1, e2, show ((17 : Nat) : Int) = 17 from rfl]
        refine fin _ ?_ rfl hD2.2 (by omega) hSt
        rw [hls]; unfold lawP
        rw [if_neg (by omega), if_pos e]
        have hb : (o.2 ∈ cl 8 S) ↔ S / 2 ^ o.2 % 2 = 1 := by rw [cl_mem, Nat.testBit_eq_decide_div_mod_eq, decide_eq_true_eq]; exact ⟨fun h => h.2, fun h => ⟨hv, h⟩⟩
        congr 1
        rcases Nat.mod_two_eq_zero_or_one (S / 2 ^ o.2) with e3 | e3
        · rw [if_neg (fun h => by rw [hb.mp h] at e3; cases e3), e3]; rfl
        · rw [if_pos (hb.mpr e3), e3]; rfl
      · have hgiv : f_X1_isGiven Γ M (J o.1) = some 1 := by
          rcases c_given (Γ := Γ) (M := M) (k := o.1) with h | h
          · rw [h, if_pos e]
          · omega
        have hgk := hgv o.1 e
        simp (disch := omega) only [wp_some, wp_ck_T, wp_ck_t, wp_bind, wp_ite_t, wp_ite_f, J_lit, J_neg, J_add, J_sub, J_mul, J_lt, J_le, J_eq, J_toInt, J_clamp, J_suc, si_1, si_2, sl_1, sl_2, sl_3, Int.toNat_natCast, Int.reduceToNat, Nat.add_sub_cancel, Int.toNat_add, Int.toNat_mul, Int.toNat_sub'', true_and, and_true, and_self, if_true, if_false, not_true, not_false_eq_true, f_X1_comesTo_260, k0, k1, n1, k2, n2, k3, n3, k4, n4, hsz, r2, r3, r4, r5, x1, x2, hgiv, hgk]
        exact fin _ (by rw [hls]; unfold lawP; rw [if_neg (by omega), if_neg (by omega)]) rfl hD2.2 (by omega) hSt
    · have hnp : ¬ (o.1 = 6 ∨ o.1 = 7 ∨ (13 ≤ o.1 ∧ o.1 ≤ 16)) ∧ o.1 ≠ 48 ∧ o.1 ≠ 17 := by
        simp only [isP, Bool.or_eq_true, beq_iff_eq] at hp; omega
      by_cases hn : o.1 = 12
      · have hgiv : f_X1_isGiven Γ M (J 12) = some 0 := rfl
        have hD2 : 1 ≤ st.length ∧ lawD c st.length = some 1 := by
          rw [lawD, if_neg hp, if_pos hn] at hD
          split at hD
          · exact ⟨by assumption, hD⟩
          · cases hD
        match st, hSt, hD2, hd with
        | x :: st', hSt, hD2, hd =>
          rw [List.length_cons] at *
          have h0 : M.1 (q + 3) st'.length = x := hSt.1
          rw [hn] at x1
          by_cases hx : x = 0
          · simp (disch := omega) only [wp_some, wp_ck_T, wp_ck_t, wp_bind, wp_ite_t, wp_ite_f, J_lit, J_neg, J_add, J_sub, J_mul, J_lt, J_le, J_eq, J_toInt, J_clamp, J_suc, si_1, si_2, sl_1, sl_2, sl_3, Int.toNat_natCast, Int.reduceToNat, Nat.add_sub_cancel, Int.toNat_add, Int.toNat_mul, Int.toNat_sub'', true_and, and_true, and_self, if_true, if_false, not_true, not_false_eq_true, f_X1_comesTo_260, f_X1_comesTo_217, k0, k1, n1, k3, n3, hsz, r2, r3, r4, r5, x1, x2, hgiv, h0, J_eq0 hx, show ((12 : Nat) : Int) = 12 from rfl, show ((st'.length + 1 : Nat) : Int) - 1 = st'.length by omega]
            exact step st'.length 1 st' (by unfold lawS; rw [if_neg hp, if_pos hn]; simp only [if_pos hx]) rfl hD2.2 (by omega) hSt.2
          · simp (disch := omega) only [wp_some, wp_ck_T, wp_ck_t, wp_bind, wp_ite_t, wp_ite_f, J_lit, J_neg, J_add, J_sub, J_mul, J_lt, J_le, J_eq, J_toInt, J_clamp, J_suc, si_1, si_2, sl_1, sl_2, sl_3, Int.toNat_natCast, Int.reduceToNat, Nat.add_sub_cancel, Int.toNat_add, Int.toNat_mul, Int.toNat_sub'', true_and, and_true, and_self, if_true, if_false, not_true, not_false_eq_true, f_X1_comesTo_260, f_X1_comesTo_217, k0, k1, n1, k3, n3, hsz, r2, r3, r4, r5, x1, x2, hgiv, h0, J_ne0 hx, show ((12 : Nat) : Int) = 12 from rfl, show ((st'.length + 1 : Nat) : Int) - 1 = st'.length by omega]
            exact step st'.length 0 st' (by unfold lawS; rw [if_neg hp, if_pos hn]; simp only [if_neg hx]) rfl hD2.2 (by omega) hSt.2
      · have hD2 : isB o.1 = true ∧ 2 ≤ st.length ∧ lawD c (st.length - 1) = some 1 := by
          rw [lawD, if_neg hp, if_neg hn] at hD
          split at hD
          · split at hD
            · exact ⟨by assumption, by assumption, hD⟩
            · cases hD
          · cases hD
        have hob : o.1 ≤ 62 := by
          have := hD2.1
          simp only [isB, Bool.or_eq_true, beq_iff_eq] at this; omega
        have hgiv : f_X1_isGiven Γ M (J o.1) = some 0 := by
          rcases c_given (Γ := Γ) (M := M) (k := o.1) with h | h
          · rw [h, if_neg hnp.1]
          · omega
        have h2 := c_joined (Γ := Γ) (M := M) o.1 hD2.1
        match st, hSt, hD2, hd with
        | y :: x :: st', hSt, hD2, hd =>
          simp only [List.length_cons, Nat.add_sub_cancel] at *
          have h0 : M.1 (q + 3) (st'.length + 1) = y := hSt.1
          have h1 : M.1 (q + 3) st'.length = x := hSt.2.1
          have h3 : ((st'.length + 1 + 1 : Nat) : Int) + -1 = ((st'.length + 1 : Nat) : Int) := by omega
          have h4 : ((st'.length + 1 : Nat) : Int) - 1 = st'.length := by omega
          simp (disch := omega) only [wp_some, wp_ck_T, wp_ck_t, wp_bind, wp_ite_t, wp_ite_f, J_lit, J_neg, J_add, J_sub, J_mul, J_lt, J_le, J_eq, J_toInt, J_clamp, J_suc, si_1, si_2, sl_1, sl_2, sl_3, Int.toNat_natCast, Int.reduceToNat, Nat.add_sub_cancel, Int.toNat_add, Int.toNat_mul, Int.toNat_sub'', true_and, and_true, and_self, if_true, if_false, not_true, not_false_eq_true, k0, k1, n1, hsz, r2, x1, hgiv]
          rw [f_X1_comesTo_221]
          simp (disch := omega) only [wp_some, wp_ck_T, wp_ck_t, wp_bind, wp_ite_t, wp_ite_f, J_lit, J_neg, J_add, J_sub, J_mul, J_lt, J_le, J_eq, J_toInt, J_clamp, J_suc, si_1, si_2, sl_1, sl_2, sl_3, Int.toNat_natCast, Int.reduceToNat, Nat.add_sub_cancel, Int.toNat_add, Int.toNat_mul, Int.toNat_sub'', true_and, and_true, and_self, if_true, if_false, not_true, not_false_eq_true, f_X1_comesTo_260, k0, k3, n3, r4, h3, h4, h0, h1, h2]
          exact step st'.length _ st' (by unfold lawS; rw [if_neg hp, if_neg hn]) rfl hD2.2.2 (by omega) hSt.2.2
end
