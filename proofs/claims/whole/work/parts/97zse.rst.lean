/-! THE REFERENCE'S READER: its small steps -/
/-- where it stands is told only while there is no fault -/
def QS (M : rhM) (bs : List Int32) (s : Ps) : Prop := (∃ i, RT M bs i ∧ i ≤ bs.length ∧ (s.2.1 = 0 → i = s.1)) ∧ M.1 102 4 = J s.2.1 ∧ (M.1 102 5 = if s.2.1 = 0 then J (-1) else J s.2.2) ∧ s.2.1 ≤ 6
def YX (M M' : rhM) : Prop := Fr [102] M M' ∧ ∀ k, (k < 4 ∨ 9 < k) → M'.1 102 k = M.1 102 k
theorem YX.refl (M : rhM) : YX M M := ⟨Fr.refl _ _, fun _ _ => rfl⟩
theorem YX.trans {M M' M'' : rhM} (h : YX M M') (h2 : YX M' M'') : YX M M'' := ⟨h.1.trans h2.1, fun k hk => (h2.2 k hk).trans (h.2 k hk)⟩
theorem YX.rk {M M' : rhM} (h : RK M M') : YX M M' := ⟨h.1, fun k hk => h.2 k (by omega) (by omega) (by omega) (by omega)⟩
theorem YX.mr {M M' : rhM} (h : YX M M') (hR : MR M) : MR M' := fun f h1 h2 => by rw [h.1.1]; exact hR f h1 h2
theorem RT.si {M : rhM} {bs : List Int32} {i : Nat} (h : RT M bs i) {k : Nat} (h3 : k ≠ 3) (h6 : k ≠ 6) (h7 : k ≠ 7) (h8 : k ≠ 8) (h9 : k ≠ 9) (v : Int32) : RT (rhsi M 102 k v) bs i := by
  obtain ⟨k0, k1, k2, k3, k4, k5⟩ := h
  have e : ∀ j, k ≠ j → (rhsi M 102 k v).1 102 j = M.1 102 j := fun j hj => by rw [si_1, if_neg (fun q => hj q.2.symm)]
  exact ⟨k0.si h3 v, by rw [e 6 h6]; exact k1, by rw [e 7 h7]; exact k2, by rw [e 8 h8]; exact k3, k4, fun q => by rw [e 9 h9]; exact k5 q⟩
section
variable {Γ : rhG} {M : rhM} {bs : List Int32} {s : Ps}
theorem y_fault (h : QS M bs s) : (M.1 102 4 = 0) = (s.2.1 = 0) := by
  rw [h.2.1]
  have := h.2.2.2
  have e : (J s.2.1 = 0) = ((s.2.1 : Int) = 0) := by rw [show (0 : Int32) = J 0 from rfl, J_eq (by omega) (by omega) (by omega) (by omega)]
  rw [e]
  exact propext ⟨fun q => by omega, fun q => by omega⟩
theorem y_good (hG : GK Γ) (h : QS M bs s) : f_X12_isGood Γ M 102 = some (if s.2.1 = 0 then 1 else 0) := by
  rw [f_X12_isGood, rhck_t (GKk102 hG)]
  by_cases g : s.2.1 = 0
  · rw [if_pos g, if_pos (by rw [y_fault h]; exact g)]
  · rw [if_neg g, if_neg (by rw [y_fault h]; exact g)]
theorem y_fails (hG : GK Γ) (h : QS M bs s) {k p : Nat} (hk : 1 ≤ k ∧ k ≤ 6) : wp (f_X12_fails Γ M 102 (J k) (J p)) (fun M' => YX M M' ∧ QS M' bs (bla k p s)) := by
  obtain ⟨⟨i, h1, h2, h3⟩, h4, h5, h6⟩ := id h
  rw [f_X12_fails, wp_ck_t (GKk102 hG), h4]
  unfold bla
  by_cases c : s.2.1 = 0
  · rw [wp_ite_f (by rw [c]; decide), if_pos c, wp_some]
    have F : Fr [102] M (rhsi (rhsi M 102 4 (J k)) 102 5 (J p)) := ((Fr.refl _ _).si (by simp) _ _).si (by simp) _ _
    refine ⟨⟨F, fun j hj => by rw [si_1, if_neg (by omega), si_1, if_neg (by omega)]⟩, ⟨i, (h1.si (by decide) (by decide) (by decide) (by decide) (by decide) _).si (by decide) (by decide) (by decide) (by decide) (by decide) _, h2, fun q => ?_⟩, ?_, ?_, hk.2⟩
    · have q : k = 0 := q
      omega
    · rw [si_1, if_neg (by omega), si_1, if_pos ⟨rfl, rfl⟩]
    · rw [si_1, if_pos ⟨rfl, rfl⟩]
      show J p = if k = 0 then J (-1) else J p
      rw [if_neg (by omega)]
  · rw [wp_ite_t (by rw [show (0 : Int32) = J 0 from rfl, J_lt (by omega) (by omega) (by omega) (by omega)]; omega), if_neg c, wp_some]
    exact ⟨YX.refl _, h⟩
theorem y_mis (hG : GK Γ) (h : QS M bs s) : wp (f_X12_misplaced Γ M 102) (fun M' => YX M M' ∧ QS M' bs (rfu bs s)) := by
  obtain ⟨⟨i, h1, h2, h3⟩, h4, h5, h6⟩ := id h
  have hk : qk bs i ≤ 5 := by unfold qk; (repeat' split) <;> omega
  have e : ∀ k : Nat, 1 ≤ k ∧ k ≤ 6 → k = (if qk bs i = 1 then 1 else 2) → wp (f_X12_misplaced_14 Γ M 102 102 (J k)) (fun M' => YX M M' ∧ QS M' bs (rfu bs s)) := fun k hk e => by
    rw [f_X12_misplaced_14, wp_ck_t (GKk102 hG), wp_ck_t (GKk102 hG), wp_bind, h1.2.1]
    refine (y_fails hG h hk).mono (fun M' q => (wp_some _ _).mpr ⟨q.1, ?_⟩)
    by_cases c : s.2.1 = 0
    · have ei := h3 c
      unfold rfu
      rw [← ei, ← e]; exact q.2
    · rw [rfu_st c]
      have := q.2
      rw [bla_st c] at this; exact this
  rw [f_X12_misplaced, wp_ck_t (GKk102 hG), h1.2.2.2.1]
  by_cases c : qk bs i = 1
  · rw [wp_ite_t (by rw [c]; rfl)]
    exact e 1 (by decide) (by rw [if_pos c])
  · rw [wp_ite_f (by rw [show (1 : Int32) = J 1 from rfl, J_eq (by omega) (by omega) (by omega) (by omega)]; omega)]
    exact e 2 (by decide) (by rw [if_neg c])
theorem y_goOn (hG : GK Γ) (hR : MR M) (h : QS M bs s) (hg : s.2.1 = 0) : wp (f_X12_goOn Γ M 102) (fun M' => YX M M' ∧ QS M' bs (adv bs s)) := by
  obtain ⟨⟨i, h1, h2, h3⟩, h4, h5, h6⟩ := id h
  have ei := h3 hg
  have hn := qn_le h2
  refine r_goOn hG (i := qn bs i) hR h1.1 h1.2.2.1 hn.2 (fun M' k t => ⟨YX.rk k, ⟨qn bs i, t, hn.2, fun _ => by rw [ei]; rfl⟩, ?_, ?_, h6⟩)
  · rw [k.2 4 (by decide) (by decide) (by decide) (by decide)]; exact h4
  · rw [k.2 5 (by decide) (by decide) (by decide) (by decide)]; exact h5
theorem kw_at : ∀ k, k < 18 → kwL.idxOf (kwL.getD k []) = k := by decide
theorem qx_iff {i k : Nat} (hk : k < 18) : qx bs i = k ↔ qk bs i = 3 ∧ qw bs i = kwL.getD k [] := by
  unfold qx
  by_cases c : qk bs i = 3
  · rw [if_pos c]
    have hm : qw bs i ∈ kwL := by
      unfold qk at c
      split at c
      · split at c
        · omega
        · split at c
          · assumption
          · omega
      · split at c
        · split at c <;> omega
        · split at c
          · split at c <;> omega
          · omega
    constructor
    · intro q
      have q : kwL.idxOf (qw bs i) = k := by omega
      refine ⟨c, ?_⟩
      have hl := List.idxOf_lt_length_of_mem hm
      have e := List.getElem_idxOf hl
      rw [← e, ← q, List.getD_eq_getElem?_getD, List.getElem?_eq_getElem hl]; rfl
    · rintro ⟨-, q⟩
      rw [q, kw_at k hk]
  · rw [if_neg c]
    exact ⟨fun q => by omega, fun q => absurd q.1 c⟩
theorem y_isWordA (hG : GK Γ) {i : Nat} (h : RT M bs i) {k : Nat} (hk : k < 18) {v : Int64} (hv : v = kwB k) : f_X12_isWord Γ M 102 v = some (if qx bs i = k then 1 else 0) := by
  have hk5 : qk bs i ≤ 5 := by unfold qk; (repeat' split) <;> omega
  rw [f_X12_isWord, rhck_t (GKk102 hG), h.2.2.2.1, hv]
  by_cases c : qk bs i = 3
  · have hl := qw_let (qk2_let (Or.inr c))
    rw [if_pos (by rw [c]; rfl), h.2.2.2.2.1 (Or.inr c)]
    by_cases c2 : qw bs i = kwL.getD k []
    · rw [if_pos ((kb_eq hk hl.1 hl.2).mpr c2), if_pos ((qx_iff hk).mpr ⟨c, c2⟩)]
    · rw [if_neg (fun q => c2 ((kb_eq hk hl.1 hl.2).mp q)), if_neg (fun q => c2 ((qx_iff hk).mp q).2)]
  · rw [if_neg (by rw [show (3 : Int32) = J 3 from rfl, J_eq (by omega) (by omega) (by omega) (by omega)]; omega), if_neg (fun q => c ((qx_iff hk).mp q).1)]
theorem y_standsA (hG : GK Γ) (hR : MR M) {i : Nat} (h : RT M bs i) (hi : i ≤ bs.length) {c : Nat} (hc : 0 < c ∧ c < 128) : f_X12_stands Γ M 102 (J c) = some (if qs bs i = c then 1 else 0) := by
  have hk5 : qk bs i ≤ 5 := by unfold qk; (repeat' split) <;> omega
  have hq := (qp_le hi).2
  have hl := h.1.2.2.1
  have hb := bt_rng h.1.2.2.2 (qp bs i)
  have hu := ut_rng hb
  rw [f_X12_stands, rhck_t (GKk102 hG), h.2.2.2.1]
  unfold qs
  by_cases k5 : qk bs i = 5
  · rw [if_pos (by rw [k5]; rfl), h.2.1, r_sign hG hR h.1 (by omega), if_pos k5]
    show (if J (ut (bt bs (qp bs i))) = J c then some (1 : Int32) else some 0) = _
    by_cases e : bt bs (qp bs i) = c
    · rw [if_pos e, if_pos (by rw [((ut_P hb).2.2.2 c (by omega) (by omega)).mpr e])]
    · rw [if_neg e, if_neg (by rw [J_eq (by omega) (by omega) (by omega) (by omega)]; exact fun q => e (((ut_P hb).2.2.2 c (by omega) (by omega)).mp q))]
  · rw [if_neg (by rw [show (5 : Int32) = J 5 from rfl, J_eq (by omega) (by omega) (by omega) (by omega)]; omega), if_neg k5, if_neg (by omega)]
theorem y_must (hG : GK Γ) (hR : MR M) (h : QS M bs s) {c : Prop} [Decidable c] {v : Int32} (hv : s.2.1 = 0 → v = if c then 1 else 0) : wp (f_X12_must Γ M 102 v) (fun M' => YX M M' ∧ QS M' bs (if s.2.1 = 0 ∧ c then adv bs s else rfu bs s)) := by
  rw [f_X12_must, wp_ck_t (GKk102 hG), wp_bind, y_good hG h, wp_some]
  by_cases g : s.2.1 = 0
  · have hv := hv g
    rw [if_pos g, wp_ite_f (by decide)]
    by_cases q : c
    · have e : (if s.2.1 = 0 ∧ c then adv bs s else rfu bs s) = adv bs s := if_pos ⟨g, q⟩
      rw [if_pos q] at hv
      rw [e, hv, wp_ite_f (by decide), wp_bind]
      exact (y_goOn hG hR h g).mono (fun M' z => (wp_some _ _).mpr z)
    · have e : (if s.2.1 = 0 ∧ c then adv bs s else rfu bs s) = rfu bs s := if_neg (fun z => q z.2)
      rw [if_neg q] at hv
      rw [e, hv, wp_ite_t rfl, wp_bind]
      exact (y_mis hG h).mono (fun M' z => (wp_some _ _).mpr z)
  · have e : (if s.2.1 = 0 ∧ c then adv bs s else rfu bs s) = s := (if_neg (fun z => g z.1)).trans (rfu_st g)
    rw [e, if_neg g, wp_ite_t rfl, wp_some]
    exact ⟨YX.refl _, h⟩
theorem y_word (hG : GK Γ) (hR : MR M) (h : QS M bs s) {k : Nat} (hk : k < 18) {v : Int64} (hv : v = kwB k) {α : Type} {K : rhM → Option α} {Q : α → Prop} (hK : ∀ M', YX M M' → QS M' bs (tWord bs k s) → wp (K M') Q) : wp ((f_X12_isWord Γ M 102 v).bind fun r => (f_X12_must Γ M 102 r).bind K) Q := by
  obtain ⟨i, h1, h2, h3⟩ := h.1
  rw [wp_bind, y_isWordA hG h1 hk hv, wp_some, wp_bind]
  refine (y_must hG hR h (c := qx bs s.1 = k) (fun g => by rw [h3 g])).mono (fun M' z => hK M' z.1 ?_)
  exact z.2
theorem y_sign (hG : GK Γ) (hR : MR M) (h : QS M bs s) {c : Nat} (hc : 0 < c ∧ c < 128) {α : Type} {K : rhM → Option α} {Q : α → Prop} (hK : ∀ M', YX M M' → QS M' bs (tSign bs c s) → wp (K M') Q) : wp ((f_X12_stands Γ M 102 (J c)).bind fun r => (f_X12_must Γ M 102 r).bind K) Q := by
  obtain ⟨i, h1, h2, h3⟩ := h.1
  rw [wp_bind, y_standsA hG hR h1 h2 hc, wp_some, wp_bind]
  refine (y_must hG hR h (c := qs bs s.1 = c) (fun g => by rw [h3 g])).mono (fun M' z => hK M' z.1 ?_)
  exact z.2
end
