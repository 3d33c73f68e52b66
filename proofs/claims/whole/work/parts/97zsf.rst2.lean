section
variable {Γ : rhG} {M : rhM} {bs : List Int32} {s : Ps}
theorem qv_u {i : Nat} (h : qk bs i = 4) : qv bs i ≤ 9999 := qv_le h
theorem y_num (hG : GK Γ) (hR : MR M) (h : QS M bs s) {a b : Nat} (ha : a < 10000) (hb : b < 10000) : wp (f_X12_numeral Γ M 102 (J a) (J b)) (fun r => YX M r.2 ∧ QS r.2 bs (tNum bs a b (qp bs s.1) s).2 ∧ ((tNum bs a b (qp bs s.1) s).2.2.1 = 0 → r.1 = J (tNum bs a b (qp bs s.1) s).1)) := by
  rw [f_X12_numeral, wp_ck_t (GKk102 hG), wp_bind, y_good hG h, wp_some]
  have f69 : ∀ (M1 : rhM) (s1 : Ps) (v : Int32), QS M1 bs s1 → f_X12_numeral_69 Γ M1 102 (J a) v = some (if s1.2.1 = 0 then v else J a, M1) := fun M1 s1 v q => by
    rw [f_X12_numeral_69, rhck_t (GKk102 hG), y_good hG q]
    show (if (if s1.2.1 = 0 then (1 : Int32) else 0) = 0 then _ else _) = _
    by_cases g : s1.2.1 = 0
    · rw [if_pos g, if_pos g]; rfl
    · rw [if_neg g, if_neg g]; rfl
  have fb : ∀ (M1 : rhM) (s1 : Ps), QS M1 bs s1 → s1.2.1 ≠ 0 → wp (f_X12_numeral_53 Γ M1 102 (J a)) (fun r => r.2 = M1) := fun M1 s1 q g => by
    rw [f_X12_numeral_53, wp_ck_t (GKk102 hG)]
    show wp ((f_X12_isGood Γ M1 102).bind _) _
    rw [wp_bind, y_good hG q, if_neg g, wp_some, wp_ite_t rfl, f69 M1 s1 _ q, wp_some]
  by_cases g : s.2.1 = 0
  · obtain ⟨⟨i, h1, h2, h3⟩, h4, h5, h6⟩ := id h
    have ei := h3 g
    rw [ei] at h1 h2
    have hk5 : qk bs s.1 ≤ 5 := by unfold qk; (repeat' split) <;> omega
    rw [if_pos g, wp_ite_f (by decide), h1.2.2.2.1]
    by_cases c : qk bs s.1 = 4
    · have hv := qv_le c
      have c0 : ¬ (s.2.1 ≠ 0 ∨ qk bs s.1 ≠ 4) := by omega
      have eT : tNum bs a b (qp bs s.1) s = (qv bs s.1, adv bs (if qv bs s.1 < a ∨ b < qv bs s.1 then bla 4 (qp bs s.1) s else s)) := by unfold tNum; rw [if_neg c0]
      rw [wp_ite_t (by rw [c]; rfl), f_X12_numeral_21, wp_ck_t (GKk102 hG), wp_bind, y_good hG h, if_pos g, wp_some, wp_ite_f (by decide), h1.2.2.2.2.2 c]
      have bad : (qv bs s.1 < a ∨ b < qv bs s.1) → wp (f_X12_numeral_44 (f_X12_numeral_53 Γ) Γ M 102 (J a)) (fun r => YX M r.2 ∧ QS r.2 bs (tNum bs a b (qp bs s.1) s).2 ∧ ((tNum bs a b (qp bs s.1) s).2.2.1 = 0 → r.1 = J (tNum bs a b (qp bs s.1) s).1)) := fun q => by
        have hb4 := bla_bad 4 (qp bs s.1) (by decide) s
        rw [if_pos q] at eT
        rw [f_X12_numeral_44, wp_ck_t (GKk102 hG), h1.2.1]
        show wp ((f_X12_fails Γ M 102 (J (4 : Nat)) (J (qp bs s.1))).bind _) _
        rw [wp_bind]
        refine (y_fails hG h (k := 4) (by decide)).mono (fun M1 z => (fb M1 _ z.2 hb4).mono (fun r e => ?_))
        rw [e, eT]
        refine ⟨z.1, ?_, fun q => absurd q hb4⟩
        obtain ⟨⟨j, j1, j2, j3⟩, j4, j5, j6⟩ := z.2
        exact ⟨⟨j, j1, j2, fun q => absurd q hb4⟩, j4, j5, j6⟩
      by_cases c1 : qv bs s.1 < a
      · rw [wp_ite_t (by rw [J_lt (by omega) (by omega) (by omega) (by omega)]; omega)]; exact bad (Or.inl c1)
      rw [wp_ite_f (by rw [J_lt (by omega) (by omega) (by omega) (by omega)]; omega)]
      by_cases c2 : b < qv bs s.1
      · rw [wp_ite_t (by rw [J_lt (by omega) (by omega) (by omega) (by omega)]; omega)]; exact bad (Or.inr c2)
      rw [wp_ite_f (by rw [J_lt (by omega) (by omega) (by omega) (by omega)]; omega)]
      rw [if_neg (fun q => q.elim c1 c2)] at eT
      rw [f_X12_numeral_53, wp_ck_t (GKk102 hG)]
      show wp ((f_X12_isGood Γ M 102).bind _) _
      rw [wp_bind, y_good hG h, if_pos g, wp_some, wp_ite_f (by decide), wp_bind]
      refine (y_goOn hG hR h g).mono (fun M1 z => ?_)
      rw [f69 M1 _ _ z.2, wp_some, eT]
      exact ⟨z.1, z.2, fun q => (if_pos (show (adv bs s).2.1 = 0 from g)).trans (h1.2.2.2.2.2 c)⟩
    · have eT : tNum bs a b (qp bs s.1) s = (a, rfu bs s) := by unfold tNum; rw [if_pos (Or.inr c)]
      have hb4 := rfu_bad (bs := bs) s
      rw [wp_ite_f (by rw [show (4 : Int32) = J 4 from rfl, J_eq (by omega) (by omega) (by omega) (by omega)]; omega), wp_bind, eT]
      refine (y_mis hG h).mono (fun M1 z => ?_)
      rw [f_X12_numeral_21, wp_ck_t (GKk102 hG), wp_bind, y_good hG z.2, if_neg hb4, wp_some, wp_ite_t rfl]
      refine (fb M1 _ z.2 hb4).mono (fun r e => ?_)
      rw [e]
      exact ⟨z.1, z.2, fun q => absurd q hb4⟩
  · rw [if_neg g, wp_ite_t rfl, tNum_bad g, wp_some]
    exact ⟨YX.refl _, h, fun q => absurd q g⟩
/-- behind a fault where does not matter -/
theorem QS.bad {s2 : Ps} (h : QS M bs s) (hg : s.2.1 ≠ 0) (e : s2.2 = s.2) : QS M bs s2 := by
  obtain ⟨⟨i, h1, h2, h3⟩, h4, h5, h6⟩ := h
  refine ⟨⟨i, h1, h2, fun q => ?_⟩, ?_, ?_, ?_⟩ <;> (try rw [e]) <;> (try assumption)
  rw [e] at q; exact absurd q hg
theorem y_signed (hG : GK Γ) (hR : MR M) (h : QS M bs s) {m : Nat} (hm : m < 10000) : wp (f_X12_signed Γ M 102 (J m)) (fun r => YX M r.2 ∧ QS r.2 bs (tSNum bs m s).2 ∧ ((tSNum bs m s).2.2.1 = 0 → r.1 = J (tSNum bs m s).1)) := by
  rw [f_X12_signed, wp_ck_t (GKk102 hG), wp_bind, y_good hG h, wp_some]
  have f74 : ∀ (M1 : rhM) (s1 : Ps) (v : Int32), MR M1 → QS M1 bs s1 → wp (f_X12_signed_74 Γ M1 102 v) (fun r => r.1 = v ∧ YX M1 r.2 ∧ QS r.2 bs (if s1.2.1 = 0 then adv bs s1 else s1)) := fun M1 s1 v hR1 q => by
    rw [f_X12_signed_74, wp_ck_t (GKk102 hG), wp_bind, y_good hG q, wp_some]
    by_cases g : s1.2.1 = 0
    · have e : (if s1.2.1 = 0 then adv bs s1 else s1) = adv bs s1 := if_pos g
      rw [e, if_pos g, wp_ite_f (by decide), wp_bind]
      exact (y_goOn hG hR1 q g).mono (fun M2 z => (wp_some _ _).mpr ⟨rfl, z⟩)
    · have e : (if s1.2.1 = 0 then adv bs s1 else s1) = s1 := if_neg g
      rw [e, if_neg g, wp_ite_t rfl, wp_some]
      exact ⟨rfl, YX.refl _, q⟩
  have f58 : ∀ (M1 : rhM) (s1 : Ps) (w : Int32), MR M1 → QS M1 bs s1 → wp (f_X12_signed_58 Γ M1 102 w) (fun r => r.1 = (if w = 0 then M1.1 102 9 else -(M1.1 102 9)) ∧ YX M1 r.2 ∧ QS r.2 bs (if s1.2.1 = 0 then adv bs s1 else s1)) := fun M1 s1 w hR1 q => by
    rw [f_X12_signed_58]
    by_cases c : w = 0
    · rw [wp_ite_t c, if_pos c, wp_ck_t (GKk102 hG)]; exact f74 M1 s1 _ hR1 q
    · rw [wp_ite_f c, if_neg c, wp_ck_t (GKk102 hG)]; exact f74 M1 s1 _ hR1 q
  /- from the number on -/
  have f29 : ∀ (M1 : rhM) (s1 : Ps) (p : Nat) (w : Int32), MR M1 → QS M1 bs s1 → s1.2.1 = 0 → wp (f_X12_signed_29 Γ M1 102 (J m) (J p) w) (fun r => YX M1 r.2 ∧ QS r.2 bs (tNum bs 0 m p s1).2 ∧ ((tNum bs 0 m p s1).2.2.1 = 0 → r.1 = (if w = 0 then J (tNum bs 0 m p s1).1 else -(J (tNum bs 0 m p s1).1)))) := fun M1 s1 p w hR1 q g => by
    obtain ⟨⟨i, h1, h2, h3⟩, h4, h5, h6⟩ := id q
    have ei := h3 g
    rw [ei] at h1 h2
    have hk5 : qk bs s1.1 ≤ 5 := by unfold qk; (repeat' split) <;> omega
    rw [f_X12_signed_29, wp_ck_t (GKk102 hG), h1.2.2.2.1]
    by_cases c : qk bs s1.1 = 4
    · have hv := qv_le c
      have e9 := h1.2.2.2.2.2 c
      have c0 : ¬ (s1.2.1 ≠ 0 ∨ qk bs s1.1 ≠ 4) := by omega
      have eT : tNum bs 0 m p s1 = (qv bs s1.1, adv bs (if qv bs s1.1 < 0 ∨ m < qv bs s1.1 then bla 4 p s1 else s1)) := by unfold tNum; rw [if_neg c0]
      rw [wp_ite_t (by rw [c]; rfl), e9]
      by_cases c2 : m < qv bs s1.1
      · have hb4 := bla_bad 4 p (by decide) s1
        rw [if_pos (Or.inr c2)] at eT
        rw [wp_ite_t (by rw [J_lt (by omega) (by omega) (by omega) (by omega)]; omega)]
        show wp ((f_X12_fails Γ M1 102 (J (4 : Nat)) (J p)).bind _) _
        rw [wp_bind]
        refine (y_fails hG q (k := 4) (by decide)).mono (fun M2 z => (f58 M2 _ w (z.1.mr hR1) z.2).mono (fun r y => ?_))
        rw [if_neg hb4] at y
        rw [eT]
        exact ⟨z.1.trans y.2.1, y.2.2.bad hb4 rfl, fun q => absurd q hb4⟩
      · rw [if_neg (fun z => z.elim (fun z => by omega) c2)] at eT
        rw [wp_ite_f (by rw [J_lt (by omega) (by omega) (by omega) (by omega)]; omega)]
        refine (f58 M1 s1 w hR1 q).mono (fun r y => ?_)
        rw [if_pos g, e9] at y
        rw [eT]
        exact ⟨y.2.1, y.2.2, fun _ => y.1⟩
    · have eT : tNum bs 0 m p s1 = (0, rfu bs s1) := by unfold tNum; rw [if_pos (Or.inr c)]
      have hb4 := rfu_bad (bs := bs) s1
      rw [wp_ite_f (by rw [show (4 : Int32) = J 4 from rfl, J_eq (by omega) (by omega) (by omega) (by omega)]; omega), wp_bind, eT]
      refine (y_mis hG q).mono (fun M2 z => (f58 M2 _ w (z.1.mr hR1) z.2).mono (fun r y => ?_))
      rw [if_neg hb4] at y
      exact ⟨z.1.trans y.2.1, y.2.2, fun q => absurd q hb4⟩
  by_cases g : s.2.1 = 0
  · obtain ⟨⟨i, h1, h2, h3⟩, h4, h5, h6⟩ := id h
    have ei := h3 g
    rw [ei] at h1 h2
    rw [if_pos g, wp_ite_f (by decide), h1.2.1]
    show wp ((f_X12_stands Γ M 102 (J (45 : Nat))).bind _) _
    rw [wp_bind, y_standsA hG hR h1 h2 (c := 45) (by decide), wp_some]
    by_cases c : qs bs s.1 = (45 : Nat)
    · rw [if_pos c, wp_ite_f (by decide), wp_bind, show tSNum bs m s = (-((tNum bs 0 m (qp bs s.1) (adv bs s)).1 : Int), (tNum bs 0 m (qp bs s.1) (adv bs s)).2) by unfold tSNum; rw [if_pos ⟨g, c⟩]]
      refine (y_goOn hG hR h g).mono (fun M1 z => (f29 M1 _ (qp bs s.1) 1 (z.1.mr hR) z.2 g).mono (fun r y => ⟨z.1.trans y.1, y.2.1, fun q => ?_⟩))
      rw [y.2.2 q, if_neg (by decide), J_neg]
    · rw [if_neg c, wp_ite_t rfl, show tSNum bs m s = (((tNum bs 0 m (qp bs s.1) s).1 : Int), (tNum bs 0 m (qp bs s.1) s).2) by unfold tSNum; rw [if_neg (fun q => c q.2)]]
      refine (f29 M s (qp bs s.1) 0 hR h g).mono (fun r y => ⟨y.1, y.2.1, fun q => ?_⟩)
      rw [y.2.2 q, if_pos rfl]
  · rw [if_neg g, wp_ite_t rfl, tSNum_bad g, wp_some]
    exact ⟨YX.refl _, h, fun q => absurd q g⟩
/-- names kept by number from a place on -/
def RN (M : rhM) (a o : Nat) (H : List (List Nat)) : Prop := ∀ k, k < H.length → M.2.1 a (o + k) = jl (enb 256 0 (H.getD k [])) ∧ (H.getD k []).length ≤ 8 ∧ ∀ c, c ∈ H.getD k [] → 97 ≤ c ∧ c ≤ 122
theorem eb_eq {v w : List Nat} (g1 : v.length ≤ 8) (g2 : ∀ c, c ∈ v → 97 ≤ c ∧ c ≤ 122) (hl : w.length ≤ 8) (hw : ∀ c, c ∈ w → 97 ≤ c ∧ c ≤ 122) : jl (enb 256 0 v) = jl (enb 256 0 w) ↔ v = w := by
  have f : ∀ l : List Nat, (∀ c, c ∈ l → 97 ≤ c ∧ c ≤ 122) → ∀ c, c ∈ l → 0 < c ∧ c - 0 < 256 := fun l h c hc => by have := h c hc; omega
  have b : ∀ l : List Nat, l.length ≤ 8 → (∀ c, c ∈ l → 97 ≤ c ∧ c ≤ 122) → enb 256 0 l < 2 ^ 64 := fun l h1 h2 => by
    have h3 := enb_lt (m := 256) (s := 0) (by decide) l.length l rfl (f l h2)
    have h4 : 256 ^ l.length ≤ 256 ^ 8 := Nat.pow_le_pow_right (by decide) h1
    have h5 : (256 : Nat) ^ 8 = 2 ^ 64 := by decide
    omega
  rw [jl_inj (b _ g1 g2) (b _ hl hw)]
  exact ⟨fun h => enb_inj _ _ _ rfl (f _ g2) (f _ hw) h, fun h => by rw [h]⟩
theorem y_here3 (hG : GK Γ) {i a o : Nat} (h : RT M bs i) {H : List (List Nat)} (ka : Γ.2.2.1 a = 16) (hl : o + H.length ≤ Γ.2.2.2 a) (h100 : o + H.length ≤ 100) (hN : RN M a o H) : ∀ (n k : Nat), k ≤ H.length → H.length - k < n → (∀ j, j < k → qk bs i = 2 → H.getD j [] ≠ qw bs i) → f_X12_here_3 Γ M n 102 a (J o) (J H.length) (J k) = some (if qk bs i = 2 ∧ qw bs i ∈ H then J (H.idxOf (qw bs i) : Nat) else J (-1)) := by
  have hk5 : qk bs i ≤ 5 := by unfold qk; (repeat' split) <;> omega
  intro n
  induction n with
  | zero => intro k _ h; omega
  | succ n ih =>
    intro k hkl hn hj
    rw [f_X12_here_3]
    have e1 : J k + 1 = J ((k + 1 : Nat) : Int) := by rw [show (1 : Int32) = J 1 from rfl, J_add, J_suc]
    by_cases c : k < H.length
    · obtain ⟨g0, g1, g2⟩ := hN k c
      have eg : H.getD k [] = H[k] := by rw [List.getD_eq_getElem?_getD, List.getElem?_eq_getElem c]; rfl
      rw [if_pos (by rw [J_lt (by omega) (by omega) (by omega) (by omega)]; omega), rhck_t (GKk102 hG), h.2.2.2.1]
      by_cases c2 : qk bs i = 2
      · have hw := qw_let (qk2_let (Or.inl c2))
        rw [if_pos (by rw [c2]; rfl), rhck_t ka, J_add, show ((o : Int) + k) = ((o + k : Nat) : Int) by omega, rhck_t (by rw [J_toInt (by omega) (by omega)]; omega), J_clamp (by omega) (by omega), Int.toNat_natCast, g0, h.2.2.2.2.1 (Or.inl c2)]
        by_cases c1 : H.getD k [] = qw bs i
        · have hm : qw bs i ∈ H := by rw [← c1, eg]; exact List.getElem_mem c
          rw [if_pos (by rw [c1]), if_pos ⟨c2, hm⟩, idx_at H k c c1 (fun j h1 => hj j h1 c2)]
        · rw [if_neg (fun q => c1 ((eb_eq g1 g2 hw.1 hw.2).mp q))]
          show f_X12_here_3 Γ M n 102 a (J o) (J H.length) (J k + 1) = _
          rw [e1]
          refine ih (k + 1) (by omega) (by omega) (fun j h1 h2 => ?_)
          by_cases c3 : j = k
          · rw [c3]; exact c1
          · exact hj j (by omega) h2
      · rw [if_neg (by rw [show (2 : Int32) = J 2 from rfl, J_eq (by omega) (by omega) (by omega) (by omega)]; omega)]
        show f_X12_here_3 Γ M n 102 a (J o) (J H.length) (J k + 1) = _
        rw [e1]
        exact ih (k + 1) (by omega) (by omega) (fun j h1 h2 => absurd h2 c2)
    · rw [if_neg (by rw [J_lt (by omega) (by omega) (by omega) (by omega)]; omega)]
      rw [if_neg]
      · rfl
      · rintro ⟨q, hm⟩
        obtain ⟨j, h1, h2⟩ := List.getElem_of_mem hm
        exact hj j (by omega) q (by rw [List.getD_eq_getElem?_getD, List.getElem?_eq_getElem h1, ← h2]; rfl)
/-- the number of the name that stands there -/
def hre (bs : List Int32) (H : List (List Nat)) (i : Nat) : Int := if qk bs i = 2 ∧ qw bs i ∈ H then (H.idxOf (qw bs i) : Nat) else -1
theorem y_here (hG : GK Γ) {i a o : Nat} (h : RT M bs i) {H : List (List Nat)} (ka : Γ.2.2.1 a = 16) (hl : o + H.length ≤ Γ.2.2.2 a) (h100 : o + H.length ≤ 100) (hN : RN M a o H) : f_X12_here Γ M 102 a (J o) (J H.length) = some (J (hre bs H i)) := by
  rw [f_X12_here]
  have := y_here3 hG h ka hl h100 hN rhFU 0 (by omega) (by have := FU_big; omega) (fun j hj => by omega)
  show f_X12_here_3 Γ M rhFU 102 a (J o) (J H.length) (J (0 : Nat)) = _
  rw [this]
  unfold hre
  split <;> rfl
theorem hre_rng (bs : List Int32) (H : List (List Nat)) (i : Nat) : -1 ≤ hre bs H i ∧ hre bs H i < H.length := by
  unfold hre
  split
  · rename_i c
    have := List.idxOf_lt_length_of_mem c.2
    omega
  · omega
theorem y_fresh (hG : GK Γ) (hR : MR M) (h : QS M bs s) {H : List (List Nat)} {v : Int32} (hv : s.2.1 = 0 → (v = 0) = (hre bs H s.1 < 0)) : wp (f_X12_fresh Γ M 102 v) (fun r => YX M r.2 ∧ QS r.2 bs (tNew bs H s).2 ∧ ((tNew bs H s).2.2.1 = 0 → r.1 = jl (enb 256 0 (tNew bs H s).1) ∧ (tNew bs H s).1.length ≤ 8 ∧ ∀ c, c ∈ (tNew bs H s).1 → 97 ≤ c ∧ c ≤ 122)) := by
  rw [f_X12_fresh, wp_ck_t (GKk102 hG), wp_bind, y_good hG h, wp_some]
  have f37 : ∀ (M1 : rhM) (s1 : Ps), MR M1 → QS M1 bs s1 → wp (f_X12_fresh_37 Γ M1 102) (fun r => r.1 = M1.2.1 102 10 ∧ YX M1 r.2 ∧ QS r.2 bs (if s1.2.1 = 0 then adv bs s1 else s1)) := fun M1 s1 hR1 q => by
    rw [f_X12_fresh_37, wp_ck_t (GKk102 hG)]
    show wp ((f_X12_isGood Γ M1 102).bind _) _
    rw [wp_bind, y_good hG q, wp_some]
    by_cases g : s1.2.1 = 0
    · have e : (if s1.2.1 = 0 then adv bs s1 else s1) = adv bs s1 := if_pos g
      rw [e, if_pos g, wp_ite_f (by decide), wp_bind]
      exact (y_goOn hG hR1 q g).mono (fun M2 z => (wp_some _ _).mpr ⟨rfl, z⟩)
    · have e : (if s1.2.1 = 0 then adv bs s1 else s1) = s1 := if_neg g
      rw [e, if_neg g, wp_ite_t rfl, wp_some]
      exact ⟨rfl, YX.refl _, q⟩
  by_cases g : s.2.1 = 0
  · obtain ⟨⟨i, h1, h2, h3⟩, h4, h5, h6⟩ := id h
    have ei := h3 g
    rw [ei] at h1 h2
    have hk5 : qk bs s.1 ≤ 5 := by unfold qk; (repeat' split) <;> omega
    rw [if_pos g, wp_ite_f (by decide), h1.2.2.2.1]
    by_cases c : qk bs s.1 = 2
    · have hw := qw_let (qk2_let (Or.inl c))
      have c0 : ¬ (s.2.1 ≠ 0 ∨ qk bs s.1 ≠ 2) := by omega
      have eT : tNew bs H s = (qw bs s.1, adv bs (if qw bs s.1 ∈ H then bla 3 (qp bs s.1) s else s)) := by unfold tNew; rw [if_neg c0]
      rw [wp_ite_t (by rw [c]; rfl)]
      by_cases c1 : qw bs s.1 ∈ H
      · have hb4 := bla_bad 3 (qp bs s.1) (by decide) s
        rw [if_pos c1] at eT
        have hre0 : ¬ hre bs H s.1 < 0 := by unfold hre; rw [if_pos ⟨c, c1⟩]; omega
        rw [wp_ite_f (by rw [hv g]; exact hre0), h1.2.1]
        show wp ((f_X12_fails Γ M 102 (J (3 : Nat)) (J (qp bs s.1))).bind _) _
        rw [wp_bind]
        refine (y_fails hG h (k := 3) (by decide)).mono (fun M1 z => (f37 M1 _ (z.1.mr hR) z.2).mono (fun r y => ?_))
        rw [if_neg hb4] at y
        rw [eT]
        exact ⟨z.1.trans y.2.1, y.2.2.bad hb4 rfl, fun q => absurd q hb4⟩
      · rw [if_neg c1] at eT
        have hre0 : hre bs H s.1 < 0 := by unfold hre; rw [if_neg (fun q => c1 q.2)]; omega
        rw [wp_ite_t (by rw [hv g]; exact hre0)]
        refine (f37 M s hR h).mono (fun r y => ?_)
        rw [if_pos g] at y
        rw [eT]
        exact ⟨y.2.1, y.2.2, fun _ => ⟨by rw [y.1]; exact h1.2.2.2.2.1 (Or.inl c), hw⟩⟩
    · have eT : tNew bs H s = ([], rfu bs s) := by unfold tNew; rw [if_pos (Or.inr c)]
      have hb4 := rfu_bad (bs := bs) s
      rw [wp_ite_f (by rw [show (2 : Int32) = J 2 from rfl, J_eq (by omega) (by omega) (by omega) (by omega)]; omega), wp_bind, eT]
      refine (y_mis hG h).mono (fun M1 z => (f37 M1 _ (z.1.mr hR) z.2).mono (fun r y => ?_))
      rw [if_neg hb4] at y
      exact ⟨z.1.trans y.2.1, y.2.2, fun q => absurd q hb4⟩
  · rw [if_neg g, wp_ite_t rfl, tNew_bad g, wp_some]
    exact ⟨YX.refl _, h, fun q => absurd q g⟩
theorem y_known (hG : GK Γ) (hR : MR M) (h : QS M bs s) {H : List (List Nat)} (hH : H.length ≤ 100) {z : Int} (hz : -1 ≤ z ∧ z < 100) (hv : s.2.1 = 0 → z = hre bs H s.1) : wp (f_X12_known Γ M 102 (J z)) (fun r => YX M r.2 ∧ QS r.2 bs (tTold bs H s).2 ∧ ((tTold bs H s).2.2.1 = 0 → r.1 = J (tTold bs H s).1) ∧ (r.1 = J 0 ∨ r.1 = J z ∧ 0 ≤ z)) := by
  rw [f_X12_known, wp_ck_t (GKk102 hG), wp_bind, y_good hG h, wp_some]
  have f48 : ∀ M1 : rhM, f_X12_known_48 Γ M1 (J z) = some (if z < 0 then J 0 else J z, M1) := fun M1 => by
    rw [f_X12_known_48]
    by_cases c : z < 0
    · rw [if_pos (by rw [show (0 : Int32) = J 0 from rfl, J_lt (by omega) (by omega) (by omega) (by omega)]; exact c), if_pos c]; rfl
    · rw [if_neg (by rw [show (0 : Int32) = J 0 from rfl, J_lt (by omega) (by omega) (by omega) (by omega)]; exact c), if_neg c]
  have f37 : ∀ (M1 : rhM) (s1 : Ps), MR M1 → QS M1 bs s1 → wp (f_X12_known_37 Γ M1 102 (J z)) (fun r => r.1 = (if z < 0 then J 0 else J z) ∧ YX M1 r.2 ∧ QS r.2 bs (if s1.2.1 = 0 then adv bs s1 else s1)) := fun M1 s1 hR1 q => by
    rw [f_X12_known_37, wp_ck_t (GKk102 hG), wp_bind, y_good hG q, wp_some]
    by_cases g : s1.2.1 = 0
    · have e : (if s1.2.1 = 0 then adv bs s1 else s1) = adv bs s1 := if_pos g
      rw [e, if_pos g, wp_ite_f (by decide), wp_bind]
      exact (y_goOn hG hR1 q g).mono (fun M2 x => by rw [f48, wp_some]; exact ⟨rfl, x⟩)
    · have e : (if s1.2.1 = 0 then adv bs s1 else s1) = s1 := if_neg g
      rw [e, if_neg g, wp_ite_t rfl, f48, wp_some]
      exact ⟨rfl, YX.refl _, q⟩
  have fr : ∀ v : Int32, v = (if z < 0 then J 0 else J z) → v = J 0 ∨ v = J z ∧ 0 ≤ z := fun v e => by
    rw [e]; split
    · exact Or.inl rfl
    · exact Or.inr ⟨rfl, by omega⟩
  by_cases g : s.2.1 = 0
  · obtain ⟨⟨i, h1, h2, h3⟩, h4, h5, h6⟩ := id h
    have ei := h3 g
    rw [ei] at h1 h2
    have ez := hv g
    have hk5 : qk bs s.1 ≤ 5 := by unfold qk; (repeat' split) <;> omega
    rw [if_pos g, wp_ite_f (by decide), h1.2.2.2.1]
    by_cases c : qk bs s.1 = 2
    · have c0 : ¬ (s.2.1 ≠ 0 ∨ qk bs s.1 ≠ 2) := by omega
      rw [wp_ite_t (by rw [c]; rfl)]
      by_cases c1 : qw bs s.1 ∈ H
      · have eT : tTold bs H s = (H.idxOf (qw bs s.1), adv bs s) := by unfold tTold; rw [if_neg c0, if_pos c1]
        have hre0 : hre bs H s.1 = (H.idxOf (qw bs s.1) : Nat) := by unfold hre; rw [if_pos ⟨c, c1⟩]
        rw [wp_ite_f (by rw [show (0 : Int32) = J 0 from rfl, J_lt (by omega) (by omega) (by omega) (by omega)]; omega)]
        refine (f37 M s hR h).mono (fun r y => ?_)
        rw [if_pos g] at y
        rw [eT]
        refine ⟨y.2.1, y.2.2, fun _ => ?_, fr _ y.1⟩
        rw [y.1, if_neg (by omega), ez, hre0]
      · have eT : tTold bs H s = (0, bla 5 (qp bs s.1) s) := by unfold tTold; rw [if_neg c0, if_neg c1]
        have hb4 := bla_bad 5 (qp bs s.1) (by decide) s
        have hre0 : hre bs H s.1 = -1 := by unfold hre; rw [if_neg (fun q => c1 q.2)]
        rw [wp_ite_t (by rw [show (0 : Int32) = J 0 from rfl, J_lt (by omega) (by omega) (by omega) (by omega)]; omega), h1.2.1]
        show wp ((f_X12_fails Γ M 102 (J (5 : Nat)) (J (qp bs s.1))).bind _) _
        rw [wp_bind]
        refine (y_fails hG h (k := 5) (by decide)).mono (fun M1 x => (f37 M1 _ (x.1.mr hR) x.2).mono (fun r y => ?_))
        rw [if_neg hb4] at y
        rw [eT]
        exact ⟨x.1.trans y.2.1, y.2.2, fun q => absurd q hb4, fr _ y.1⟩
    · have eT : tTold bs H s = (0, rfu bs s) := by unfold tTold; rw [if_pos (Or.inr c)]
      have hb4 := rfu_bad (bs := bs) s
      rw [wp_ite_f (by rw [show (2 : Int32) = J 2 from rfl, J_eq (by omega) (by omega) (by omega) (by omega)]; omega), wp_bind, eT]
      refine (y_mis hG h).mono (fun M1 x => (f37 M1 _ (x.1.mr hR) x.2).mono (fun r y => ?_))
      rw [if_neg hb4] at y
      exact ⟨x.1.trans y.2.1, y.2.2, fun q => absurd q hb4, fr _ y.1⟩
  · rw [if_neg g, wp_ite_t rfl, tTold_bad g, wp_some]
    exact ⟨YX.refl _, h, fun q => absurd q g, Or.inl rfl⟩
end
