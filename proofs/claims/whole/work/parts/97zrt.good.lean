/-! WHAT A LINE WITHOUT A FAULT SAYS -/
section
variable {bs : List Int32} {H : List (List Nat)} {s : Ps}
theorem bla_bad (k p : Nat) (hk : k ≠ 0) (s : Ps) : (bla k p s).2.1 ≠ 0 := by
  unfold bla
  split
  · exact hk
  · assumption
theorem bla_st {k p : Nat} {s : Ps} (h : s.2.1 ≠ 0) : bla k p s = s := by unfold bla; rw [if_neg h]
theorem rfu_st {s : Ps} (h : s.2.1 ≠ 0) : rfu bs s = s := bla_st h
theorem advU_good {c : Prop} [Decidable c] (h : (advU bs c s).2.1 = 0) : s.2.1 = 0 ∧ ¬ c ∧ advU bs c s = adv bs s := by
  by_cases q : c
  · unfold advU at h; rw [if_pos q] at h; exact absurd h (rfu_bad s)
  · have e : advU bs c s = adv bs s := by unfold advU; rw [if_neg q]
    rw [e] at h; exact ⟨h, q, e⟩
theorem tWord_good {w : Nat} (h : (tWord bs w s).2.1 = 0) : s.2.1 = 0 ∧ qx bs s.1 = w ∧ tWord bs w s = adv bs s := by
  by_cases q : s.2.1 = 0 ∧ qx bs s.1 = w
  · exact ⟨q.1, q.2, by unfold tWord; rw [if_pos q]⟩
  · unfold tWord at h; rw [if_neg q] at h; exact absurd h (rfu_bad s)
theorem tNum_good {a b p : Nat} (h : (tNum bs a b p s).2.2.1 = 0) : s.2.1 = 0 ∧ qk bs s.1 = 4 ∧ a ≤ qv bs s.1 ∧ qv bs s.1 ≤ b ∧ tNum bs a b p s = (qv bs s.1, adv bs s) := by
  unfold tNum at h ⊢
  by_cases q : s.2.1 ≠ 0 ∨ qk bs s.1 ≠ 4
  · rw [if_pos q] at h; exact absurd h (rfu_bad s)
  · rw [if_neg q] at h ⊢
    by_cases q2 : qv bs s.1 < a ∨ b < qv bs s.1
    · rw [if_pos q2] at h; exact absurd h (bla_bad 4 p (by decide) s)
    · rw [if_neg q2]; exact ⟨by omega, by omega, by omega, by omega, rfl⟩
theorem tNum_bad {a b p : Nat} (h : s.2.1 ≠ 0) : tNum bs a b p s = (a, s) := by unfold tNum; rw [if_pos (Or.inl h), rfu_st h]
theorem tWord_bad {w : Nat} (h : s.2.1 ≠ 0) : tWord bs w s = s := by unfold tWord; rw [if_neg (fun q => h q.1), rfu_st h]
theorem tSign_bad {w : Nat} (h : s.2.1 ≠ 0) : tSign bs w s = s := by unfold tSign; rw [if_neg (fun q => h q.1), rfu_st h]
theorem tNew_bad (h : s.2.1 ≠ 0) : tNew bs H s = ([], s) := by unfold tNew; rw [if_pos (Or.inl h), rfu_st h]
theorem tTold_bad (h : s.2.1 ≠ 0) : tTold bs H s = (0, s) := by unfold tTold; rw [if_pos (Or.inl h), rfu_st h]
theorem tSNum_bad {m : Nat} (h : s.2.1 ≠ 0) : tSNum bs m s = (0, s) := by unfold tSNum; rw [if_neg (fun q => h q.1), tNum_bad h]; rfl
theorem tSNum_good {m : Nat} (h : (tSNum bs m s).2.2.1 = 0) : s.2.1 = 0 ∧ -(m : Int) ≤ (tSNum bs m s).1 ∧ (tSNum bs m s).1 ≤ m ∧
    (tSNum bs m s = if qs bs s.1 = 45 then (-(qv bs (qn bs s.1) : Int), adv bs (adv bs s)) else ((qv bs s.1 : Int), adv bs s)) ∧ (if qs bs s.1 = 45 then qk bs (qn bs s.1) = 4 ∧ qv bs (qn bs s.1) ≤ m else qk bs s.1 = 4 ∧ qv bs s.1 ≤ m) := by
  unfold tSNum at h ⊢
  by_cases q : s.2.1 = 0 ∧ qs bs s.1 = 45
  · rw [if_pos q] at h ⊢
    obtain ⟨h1, h2, h3, h4, h5⟩ := tNum_good h
    have h2 : qk bs (qn bs s.1) = 4 := h2
    have h4 : qv bs (qn bs s.1) ≤ m := h4
    rw [h5, if_pos q.2, if_pos q.2]
    refine ⟨q.1, ?_, ?_, rfl, h2, h4⟩
    · show -(m : Int) ≤ -(qv bs (qn bs s.1) : Int); omega
    · show -(qv bs (qn bs s.1) : Int) ≤ (m : Int); omega
  · rw [if_neg q] at h ⊢
    obtain ⟨h1, h2, h3, h4, h5⟩ := tNum_good h
    have q2 : ¬ qs bs s.1 = 45 := fun z => q ⟨h1, z⟩
    rw [h5, if_neg q2, if_neg q2]
    refine ⟨h1, ?_, ?_, rfl, h2, h4⟩
    · show -(m : Int) ≤ (qv bs s.1 : Int); omega
    · show (qv bs s.1 : Int) ≤ (m : Int); omega
theorem tNew_good (h : (tNew bs H s).2.2.1 = 0) : s.2.1 = 0 ∧ qk bs s.1 = 2 ∧ qw bs s.1 ∉ H ∧ tNew bs H s = (qw bs s.1, adv bs s) := by
  unfold tNew at h ⊢
  by_cases q : s.2.1 ≠ 0 ∨ qk bs s.1 ≠ 2
  · rw [if_pos q] at h; exact absurd h (rfu_bad s)
  · rw [if_neg q] at h ⊢
    by_cases q2 : qw bs s.1 ∈ H
    · rw [if_pos q2] at h; exact absurd h (bla_bad 3 _ (by decide) s)
    · rw [if_neg q2]; exact ⟨by omega, by omega, q2, rfl⟩
theorem tTold_good (h : (tTold bs H s).2.2.1 = 0) : s.2.1 = 0 ∧ qk bs s.1 = 2 ∧ qw bs s.1 ∈ H ∧ tTold bs H s = (H.idxOf (qw bs s.1), adv bs s) ∧ H.idxOf (qw bs s.1) < H.length := by
  unfold tTold at h ⊢
  by_cases q : s.2.1 ≠ 0 ∨ qk bs s.1 ≠ 2
  · rw [if_pos q] at h; exact absurd h (rfu_bad s)
  · rw [if_neg q] at h ⊢
    by_cases q2 : qw bs s.1 ∈ H
    · rw [if_pos q2] at h ⊢; exact ⟨by omega, by omega, q2, rfl, List.idxOf_lt_length_of_mem q2⟩
    · rw [if_neg q2] at h; exact absurd h (bla_bad 5 _ (by decide) s)
theorem tTold_lt : (tTold bs H s).1 < H.length ∨ (tTold bs H s).1 = 0 := by
  unfold tTold
  split
  · exact Or.inr rfl
  · split
    · exact Or.inl (List.idxOf_lt_length_of_mem (by assumption))
    · exact Or.inr rfl
end
/-! the code of a law without a fault leaves one number more -/
def cdOk (cd : List (Nat × Nat)) (hl : Nat) : Prop := ∀ o, o ∈ cd → o.2 ≤ 9999 ∧ (o.1 = 17 → o.2 < hl)
theorem cdOk.app {a b : List (Nat × Nat)} {hl : Nat} (h : cdOk a hl) (h2 : cdOk b hl) : cdOk (a ++ b) hl := fun o ho => (List.mem_append.mp ho).elim (h o) (h2 o)
theorem cdOk.one {k v hl : Nat} (h : v ≤ 9999) (h2 : k = 17 → v < hl) : cdOk [(k, v)] hl := fun o ho => by rw [List.mem_singleton] at ho; rw [ho]; exact ⟨h, h2⟩
def LDc (hl : Nat) (s s' : Es) : Prop := s.2.2 < s'.2.2 ∧ s'.2.2 ≤ 40 ∧ ∃ c, s'.2.1 = s.2.1 ++ c ∧ cdOk c hl ∧ ∀ d, d + (s'.2.2 - s.2.2) ≤ 60 → ∀ rest, lawD (c ++ rest) d = lawD rest (d + 1)
def LD (hl : Nat) (p : Es → Es) : Prop := ∀ s, s.1.2.1 = 0 → s.2.2 ≤ 40 → (p s).1.2.1 = 0 → LDc hl s (p s)
def opOk (o : Nat → Option Nat) : Prop := ∀ i k, o i = some k → isB k = true ∧ isP k = false ∧ k ≠ 12 ∧ k ≠ 17
section
variable {bs : List Int32} {H : List (List Nat)} {hl : Nat}
theorem LDc.op {s0 s1 s2 : Es} (h : LDc hl s0 s1) (h2 : LDc hl (eAdv bs s1) s2) {k : Nat} (b1 : isB k = true) (b2 : isP k = false) (b3 : k ≠ 12) (b4 : k ≠ 17) : LDc hl s0 (ae k s2) := by
  obtain ⟨k0, k1, c0, k2, k3, k4⟩ := h
  obtain ⟨h0, h1, c1, h2, h3, h4⟩ := h2
  have e1 : (eAdv bs s1).2 = s1.2 := rfl
  rw [e1] at h0 h2 h4
  refine ⟨by show s0.2.2 < s2.2.2; omega, h1, c0 ++ (c1 ++ [(k, 0)]), ?_, k3.app (h3.app (cdOk.one (by omega) (fun z => absurd z b4))), ?_⟩
  · show s2.2.1 ++ [(k, 0)] = _
    rw [h2, k2, List.append_assoc, List.append_assoc]
  · intro d hd rest
    have hd : d + (s2.2.2 - s0.2.2) ≤ 60 := hd
    rw [List.append_assoc, List.append_assoc, k4 d (by omega), h4 (d + 1) (by omega)]
    rw [List.singleton_append, lawD, b2, if_neg Bool.false_ne_true, if_neg b3, b1, if_pos rfl, if_pos (by omega)]
    rfl
theorem LD_lps {o : Nat → Option Nat} (ho : opOk o) {p : Es → Es} (hp : LD hl p) : ∀ (n : Nat) (s0 s : Es), s.1.2.1 = 0 → LDc hl s0 s → (lps bs o p n s).1.2.1 = 0 → LDc hl s0 (lps bs o p n s) := by
  intro n
  induction n with
  | zero => intro s0 s hg h _; exact h
  | succ n ih =>
    intro s0 s hg h hb
    rw [lps, if_pos hg] at hb ⊢
    cases e : o s.1.1 with
    | none => exact h
    | some k =>
      rw [e] at hb
      have hb : (lps bs o p n (ae k (p (eAdv bs s)))).1.2.1 = 0 := hb
      show LDc hl s0 (lps bs o p n (ae k (p (eAdv bs s))))
      have g1 : (p (eAdv bs s)).1.2.1 = 0 := by
        apply Classical.byContradiction
        intro q
        rw [lps_bad (by exact q)] at hb; exact q hb
      obtain ⟨b1, b2, b3, b4⟩ := ho _ _ e
      exact ih s0 _ g1 (h.op (hp (eAdv bs s) hg h.2.1 g1) b1 b2 b3 b4) hb
theorem LD_1 {o : Nat → Option Nat} (ho : opOk o) {u p : Es → Es} (hu : LD hl u) (hp : LD hl p) (n : Nat) : LD hl (fun s => lps bs o p n (u s)) := by
  intro s hg h4 hb
  have g1 : (u s).1.2.1 = 0 := by
    apply Classical.byContradiction
    intro q
    simp only [lps_bad q] at hb; exact q hb
  exact LD_lps ho hp n s (u s) g1 (hu s hg h4 g1) hb
theorem oT_ok : opOk (oT bs) := by
  intro i k h; unfold oT at h; split at h
  · rename_i c
    have e := Option.some.inj h
    rcases c with c | c <;> (rw [c] at e; subst e; decide)
  · cases h
theorem oS_ok : opOk (oS bs) := by
  intro i k h; unfold oS at h; split at h
  · rename_i c
    have e := Option.some.inj h
    rcases c with c | c <;> (rw [c] at e; subst e; decide)
  · cases h
theorem oC_ok : opOk (oC bs) := by
  intro i k h; unfold oC at h; split at h
  · rename_i c
    have e := Option.some.inj h
    rcases c with c | c | c <;> (rw [c] at e; subst e; decide)
  · cases h
theorem oA_ok : opOk (oA bs) := by
  intro i k h; unfold oA at h; split at h
  · have e := Option.some.inj h
    subst e; decide
  · cases h
theorem oO_ok : opOk (oO bs) := by
  intro i k h; unfold oO at h; split at h
  · have e := Option.some.inj h
    subst e; decide
  · cases h
theorem LD_T {u : Es → Es} (h : LD hl u) : LD hl (pT bs u) := LD_1 oT_ok h h 40
theorem LD_S {u : Es → Es} (h : LD hl u) : LD hl (pS bs u) := LD_1 oS_ok (LD_T h) (LD_T h) 40
theorem LD_B {u : Es → Es} (h : LD hl u) : LD hl (pB bs u) := LD_1 oA_ok h h 40
theorem LD_E {u : Es → Es} (h : LD hl u) : LD hl (pE bs u) := LD_1 oO_ok (LD_B h) (LD_B h) 40
theorem LD_C {u : Es → Es} (h : LD hl u) : LD hl (pC bs u) := by
  have hS := LD_S (bs := bs) h
  intro s hg h4 hb
  unfold pC at hb ⊢
  by_cases g : (pS bs u s).1.2.1 = 0
  · rw [if_pos g] at hb ⊢
    have h1 := hS s hg h4 g
    cases e : oC bs (pS bs u s).1.1 with
    | none => exact h1
    | some k =>
      rw [e] at hb
      have hb : (pS bs u (eAdv bs (pS bs u s))).1.2.1 = 0 := hb
      obtain ⟨b1, b2, b3, b4⟩ := oC_ok _ _ e
      exact h1.op (hS _ g h1.2.1 hb) b1 b2 b3 b4
  · rw [if_neg g] at hb; exact absurd hb g
theorem LDc.un {s s' : Es} (h4 : s.2.2 < 40) {k v : Nat} (hk : isP k = true) (hv : v ≤ 9999) (hw : k = 17 → v < hl) (e1 : s'.2.1 = s.2.1 ++ [(k, v)]) (e2 : s'.2.2 = s.2.2 + 1) : LDc hl s s' := by
  refine ⟨by omega, by omega, _, e1, cdOk.one hv hw, fun d hd rest => ?_⟩
  rw [List.singleton_append, lawD, hk, if_pos rfl, if_pos (by omega)]
theorem isGv_isP {x : Int} (h : isGv x = true) : isP x.toNat = true ∧ x.toNat ≠ 17 := by
  unfold isGv at h; rw [decide_eq_true_eq] at h
  rcases h with h | h | h | h | h | h <;> (rw [h]; decide)
theorem LD_U (hH : H.length ≤ 9999) {r : Option (Es → Es)} (hE : ∀ e, r = some e → LD H.length e) : LD H.length (pU bs H r) := by
  intro s hg hu h
  unfold pU at h ⊢
  by_cases c0 : s.1.2.1 ≠ 0 ∨ 40 ≤ s.2.2
  · rw [if_pos c0] at h; exact absurd h (rfu_bad s.1)
  rw [if_neg c0] at h ⊢
  by_cases c2 : qk bs s.1.1 = 4
  · rw [if_pos c2]
    exact LDc.un (by omega) (k := 48) (v := qv bs s.1.1) rfl (qv_le c2) (fun z => by omega) rfl rfl
  rw [if_neg c2] at h ⊢
  by_cases c3 : qx bs s.1.1 = 17
  · rw [if_pos c3] at h ⊢
    have h1 := tTold_good (bs := bs) (H := H) (s := adv bs s.1) h
    refine LDc.un (by omega) (k := 17) (v := (tTold bs H (adv bs s.1)).1) rfl ?_ (fun _ => ?_) rfl rfl
    · rw [h1.2.2.2.1]
      have := h1.2.2.2.2
      show H.idxOf (qw bs (adv bs s.1).1) ≤ 9999
      omega
    · rw [h1.2.2.2.1]; exact h1.2.2.2.2
  rw [if_neg c3] at h ⊢
  by_cases c4 : isGv (qx bs s.1.1) = true
  · rw [if_pos c4]
    have := isGv_isP c4
    exact LDc.un (by omega) (k := (qx bs s.1.1).toNat) (v := 0) this.1 (by omega) (fun z => absurd z this.2) rfl rfl
  rw [if_neg c4] at h ⊢
  by_cases c5 : qs bs s.1.1 = 40
  · rw [if_pos c5] at h ⊢
    cases hrr : r with
    | none => rw [hrr] at h; exact absurd h (rfu_bad s.1)
    | some e =>
      rw [hrr] at h
      have h1 := tSign_good (bs := bs) (c := 41) (s := (e (eAdv bs (s.1, s.2.1, s.2.2 + 1))).1) h
      obtain ⟨k0, k1, c, k2, k3, k4⟩ := hE e hrr (eAdv bs (s.1, s.2.1, s.2.2 + 1)) hg (by show s.2.2 + 1 ≤ 40; omega) h1.1
      have k0 : s.2.2 + 1 < (e (eAdv bs (s.1, s.2.1, s.2.2 + 1))).2.2 := k0
      refine ⟨by show s.2.2 < (e (eAdv bs (s.1, s.2.1, s.2.2 + 1))).2.2; omega, k1, c, k2, k3, fun d hd rest => k4 d ?_ rest⟩
      have hd : d + ((e (eAdv bs (s.1, s.2.1, s.2.2 + 1))).2.2 - s.2.2) ≤ 60 := hd
      show d + ((e (eAdv bs (s.1, s.2.1, s.2.2 + 1))).2.2 - (s.2.2 + 1)) ≤ 60
      omega
  · rw [if_neg c5] at h; exact absurd h (rfu_bad s.1)
theorem LD_O (hH : H.length ≤ 9999) : ∀ k, LD H.length (pO bs H k)
  | 0 => by
    have hL : LD H.length (pU bs H none) := LD_U hH (fun e h => by cases h)
    intro s hg hu h
    rw [pO] at h ⊢
    by_cases c : qx bs s.1.1 = 12
    · rw [if_pos c] at h; exact absurd h (rfu_bad s.1)
    · rw [if_neg c] at h ⊢; exact LD_C hL s hg hu h
  | k + 1 => by
    have h1 := LD_O hH k
    have hL : LD H.length (pU bs H (some (pE bs (pO bs H k)))) := LD_U hH (fun e h => by cases h; exact LD_E h1)
    intro s hg hu h
    rw [pO] at h ⊢
    by_cases c : qx bs s.1.1 = 12
    · rw [if_pos c, if_pos hg] at h ⊢
      obtain ⟨k0, k1, c, k2, k3, k4⟩ := h1 (eAdv bs s) hg hu h
      refine ⟨k0, k1, c ++ [(12, 0)], ?_, k3.app (cdOk.one (by omega) (fun z => by omega)), fun d hd rest => ?_⟩
      · show (pO bs H k (eAdv bs s)).2.1 ++ [(12, 0)] = _
        rw [k2, List.append_assoc]; rfl
      · rw [List.append_assoc, k4 d hd, List.singleton_append, lawD]
        rw [if_neg (by decide), if_pos rfl, if_pos (by omega)]
    · rw [if_neg c] at h ⊢; exact LD_C hL s hg hu h
/-- a law's text without a fault -/
theorem law_good (hH : H.length ≤ 9999) {s : Ps} (hg : s.2.1 = 0) (h : (pEk bs H 7 (s, [], 0)).1.2.1 = 0) : lawD (pEk bs H 7 (s, [], 0)).2.1 0 = some 1 ∧ cdOk (pEk bs H 7 (s, [], 0)).2.1 H.length ∧ (pEk bs H 7 (s, [], 0)).2.1.length ≤ 400 ∧ (pEk bs H 7 (s, [], 0)).2.2 ≤ 40 := by
  obtain ⟨k0, k1, c, k2, k3, k4⟩ := LD_E (bs := bs) (LD_O (bs := bs) (H := H) hH 7) (s, [], 0) hg (by show 0 ≤ 40; omega) h
  have e : (pEk bs H 7 (s, [], 0)).2.1 = c := k2
  have hq := (LQ_O (bs := bs) (H := H) (k := 7) (by decide)).2.2.1 (s, [], 0) ⟨by show 0 ≤ 40; omega, fun _ => by show 0 + 9 * (40 - 0) ≤ 400; omega⟩
  have h5 := hq.2 h
  have h6 : (pEk bs H 7 (s, [], 0)).2.1.length + 9 * (40 - (pEk bs H 7 (s, [], 0)).2.2) ≤ 400 := h5
  have k1 : (pEk bs H 7 (s, [], 0)).2.2 ≤ 40 := k1
  refine ⟨?_, by rw [e]; exact k3, by omega, k1⟩
  have := k4 0 (by show 0 + ((pEk bs H 7 (s, [], 0)).2.2 - 0) ≤ 60; omega) []
  rw [List.append_nil] at this
  rw [e, this]; rfl
end
