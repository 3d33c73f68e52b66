/-! THE LAW'S TEXT BY A PILE OF OPERATORS -/
abbrev Pk : Type := List (Nat × Nat)
def rk (bs : List Int32) (i : Nat) : Nat := if qx bs i = 11 then 2 else if qx bs i = 10 then 1 else if (oC bs i).isSome = true then 4 else if (oS bs i).isSome = true then 5 else if (oT bs i).isSome = true then 6 else 0
def opc (bs : List Int32) (i : Nat) : Nat := if qx bs i = 11 then 11 else if qx bs i = 10 then 10 else (qs bs i).toNat
theorem qx_qs (bs : List Int32) (i : Nat) : qx bs i = -1 ∨ qs bs i = -1 := by
  unfold qx qs
  by_cases c : qk bs i = 3
  · right; rw [if_neg (by omega)]
  · left; rw [if_neg c]
theorem rk_all (bs : List Int32) (i : Nat) : (oA bs i = if rk bs i = 2 then some (opc bs i) else none) ∧ (oO bs i = if rk bs i = 1 then some (opc bs i) else none) ∧ (oC bs i = if rk bs i = 4 then some (opc bs i) else none) ∧ (oS bs i = if rk bs i = 5 then some (opc bs i) else none) ∧ (oT bs i = if rk bs i = 6 then some (opc bs i) else none) ∧ rk bs i ≤ 6 ∧ rk bs i ≠ 3 := by
  have h := qx_qs bs i
  unfold rk opc oA oO oC oS oT
  generalize qx bs i = q at *
  generalize qs bs i = z at *
  by_cases c1 : q = 11
  · have : z = -1 := by omega
    rw [c1, this]; decide
  by_cases c2 : q = 10
  · have : z = -1 := by omega
    rw [c2, this]; decide
  simp only [if_neg c1, if_neg c2]
  by_cases c3 : z = 60 ∨ z = 62 ∨ z = 61
  · have d1 : ¬ (z = 43 ∨ z = 45) := by omega
    have d2 : ¬ (z = 42 ∨ z = 47) := by omega
    simp [c3, d1, d2]
  by_cases c4 : z = 43 ∨ z = 45
  · have d2 : ¬ (z = 42 ∨ z = 47) := by omega
    simp [c3, c4, d2]
  by_cases c5 : z = 42 ∨ z = 47
  · simp [c3, c4, c5]
  · simp [c3, c4, c5]
def topR : Pk → Nat
  | [] => 8
  | t :: _ => t.1
def wth : Pk → Nat
  | [] => 0
  | t :: st => (if t.1 = 3 ∨ t.1 = 7 then 1 else 0) + wth st
def isCmp : Pk → Bool
  | [] => false
  | t :: st => if t.1 = 5 ∨ t.1 = 6 then isCmp st else decide (t.1 = 4)
def pops (r : Nat) : Pk → Es → Pk × Es
  | [], s => ([], s)
  | t :: st, s => if t.1 ≤ 6 ∧ r ≤ t.1 then pops r st (ae t.2 s) else (t :: st, s)
abbrev Xs : Type := Bool × Pk × Es
/-- a unit is wanted -/
def stU (bs : List Int32) (H : List (List Nat)) (st : Pk) (s : Es) : Xs :=
  let nt : Prop := (topR st ≤ 3 ∨ 7 ≤ topR st) ∧ qx bs s.1.1 = 12
  let wd : Prop := qx bs s.1.1 = 17 ∨ isGv (qx bs s.1.1) = true
  if (¬ nt ∧ ((¬ wd ∧ qk bs s.1.1 ≠ 4 ∧ qs bs s.1.1 ≠ 40) ∨ s.2.2 = 40)) ∨ ((nt ∨ qs bs s.1.1 = 40) ∧ wth st = 7) then (true, st, eRfu bs s)
  else if nt then (true, (3, 12) :: st, eAdv bs s)
  else if qs bs s.1.1 = 40 then (true, (7, 12) :: st, eAdv bs (s.1, s.2.1, s.2.2 + 1))
  else if qx bs s.1.1 = 17 then (false, st, au 17 (tTold bs H (adv bs s.1)).1 ((tTold bs H (adv bs s.1)).2, s.2))
  else if isGv (qx bs s.1.1) = true then (false, st, eAdv bs (au (qx bs s.1.1).toNat 0 s))
  else (false, st, eAdv bs (au 48 (qv bs s.1.1) s))
/-- behind a unit -/
def stB (bs : List Int32) (st : Pk) (s : Es) : Xs :=
  if rk bs s.1.1 = 4 ∧ isCmp st = true then (true, st, eRfu bs s)
  else if 0 < rk bs s.1.1 then (true, (rk bs s.1.1, opc bs s.1.1) :: (pops (rk bs s.1.1) st s).1, eAdv bs (pops (rk bs s.1.1) st s).2)
  else match (pops 0 st s).1 with
    | [] => (false, [], (pops 0 st s).2)
    | t :: st2 => if t.1 = 7 then (false, st2, (tSign bs 41 (pops 0 st s).2.1, (pops 0 st s).2.2)) else (false, st2, (pops 0 st s).2)
def stp (bs : List Int32) (H : List (List Nat)) (x : Xs) : Xs := if x.1 = true then stU bs H x.2.1 x.2.2 else stB bs x.2.1 x.2.2
def run (bs : List Int32) (H : List (List Nat)) : Nat → Xs → Option Es
  | 0, _ => none
  | n + 1, x => if x.2.2.1.2.1 = 0 ∧ x.2.1 ≠ [] then run bs H n (stp bs H x) else some x.2.2
def Rn (bs : List Int32) (H : List (List Nat)) (x : Xs) (r : Es) : Prop := ∃ n, run bs H n x = some r
section
variable {bs : List Int32} {H : List (List Nat)}
theorem Rn_step {x : Xs} {r : Es} (h1 : x.2.2.1.2.1 = 0) (h2 : x.2.1 ≠ []) (h : Rn bs H (stp bs H x) r) : Rn bs H x r := by
  obtain ⟨n, hn⟩ := h
  exact ⟨n + 1, by rw [run, if_pos ⟨h1, h2⟩]; exact hn⟩
theorem Rn_inv {x : Xs} {r : Es} (h1 : x.2.2.1.2.1 = 0) (h2 : x.2.1 ≠ []) (h : Rn bs H x r) : Rn bs H (stp bs H x) r := by
  obtain ⟨n, hn⟩ := h
  cases n with
  | zero => cases hn
  | succ n => rw [run, if_pos ⟨h1, h2⟩] at hn; exact ⟨n, hn⟩
theorem Rn_stop {x : Xs} (h : ¬ (x.2.2.1.2.1 = 0 ∧ x.2.1 ≠ [])) : Rn bs H x x.2.2 := ⟨1, by rw [run, if_neg h]⟩
theorem Rn_end {x : Xs} {r : Es} (h : ¬ (x.2.2.1.2.1 = 0 ∧ x.2.1 ≠ [])) (hr : Rn bs H x r) : r = x.2.2 := by
  obtain ⟨n, hn⟩ := hr
  cases n with
  | zero => cases hn
  | succ n => rw [run, if_neg h] at hn; exact (Option.some.inj hn).symm
/-- the same fault, and all the same if there is none -/
def eqv (r s : Es) : Prop := r.1.2 = s.1.2 ∧ (s.1.2.1 = 0 → r = s)
theorem eqv.refl (s : Es) : eqv s s := ⟨rfl, fun _ => rfl⟩
theorem eqv.trans {a b c : Es} (h : eqv a b) (h2 : eqv b c) : eqv a c := ⟨h.1.trans h2.1, fun e => (h.2 (by rw [h2.1]; exact e)).trans (h2.2 e)⟩
theorem rfu_bad (s : Ps) : (rfu bs s).2.1 ≠ 0 := by
  unfold rfu bla
  split
  · show (if qk bs s.1 = 1 then 1 else 2) ≠ 0
    split <;> decide
  · assumption
theorem ae_1 (c : Nat) (s : Es) : (ae c s).1 = s.1 := rfl
theorem pops_keep {r : Nat} {st : Pk} (h : topR st < r ∨ 7 ≤ topR st) (s : Es) : pops r st s = (st, s) := by
  cases st with
  | nil => rfl
  | cons t st =>
    rw [pops, if_neg (by rw [topR] at h; omega)]
theorem pop_ok {t : Nat × Nat} {st : Pk} {s : Es} (ht : t.1 ≤ 6) (hr : rk bs s.1.1 ≤ t.1) (h4 : ¬ (rk bs s.1.1 = 4 ∧ t.1 = 4)) (hg : s.1.2.1 = 0) (hst : st ≠ []) {r : Es} (h : Rn bs H (false, st, ae t.2 s) r) :
    ∃ r', Rn bs H (false, t :: st, s) r' ∧ eqv r' r := by
  have h2 := Rn_inv (x := (false, st, ae t.2 s)) hg hst h
  by_cases c : rk bs s.1.1 = 4 ∧ isCmp st = true
  · have e1 : stp bs H (false, st, ae t.2 s) = (true, st, eRfu bs (ae t.2 s)) := by
      show stB bs st (ae t.2 s) = _
      unfold stB; rw [if_pos (by rw [ae_1]; exact c)]
    have e2 : stp bs H (false, t :: st, s) = (true, t :: st, eRfu bs s) := by
      show stB bs (t :: st) s = _
      unfold stB; rw [if_pos ⟨c.1, by rw [isCmp, if_pos (by omega)]; exact c.2⟩]
    rw [e1] at h2
    have h3 := Rn_end (by intro q; exact rfu_bad s.1 q.1) h2
    refine ⟨eRfu bs s, Rn_step (x := (false, t :: st, s)) hg (by simp) (by rw [e2]; exact Rn_stop (by intro q; exact rfu_bad s.1 q.1)), ?_, ?_⟩
    · rw [h3]; rfl
    · rw [h3]; intro q; exact absurd q (rfu_bad s.1)
  · have e : stB bs (t :: st) s = stB bs st (ae t.2 s) := by
      have ep : ∀ k, k ≤ t.1 → pops k (t :: st) s = pops k st (ae t.2 s) := fun k hk => by rw [pops, if_pos ⟨ht, hk⟩]
      have c' : ¬ (rk bs s.1.1 = 4 ∧ isCmp (t :: st) = true) := by
        intro q
        apply c
        refine ⟨q.1, ?_⟩
        have := q.2
        rw [isCmp] at this
        by_cases c5 : t.1 = 5 ∨ t.1 = 6
        · rw [if_pos c5] at this; exact this
        · rw [if_neg c5, decide_eq_true_eq] at this; omega
      unfold stB
      rw [if_neg c', ep _ hr, ep 0 (by omega)]
      exact (if_neg c).symm
    exact ⟨r, Rn_step (x := (false, t :: st, s)) hg (by simp) (by show Rn bs H (stB bs (t :: st) s) r; rw [e]; exact h2), eqv.refl r⟩
/-- what is run from x is what follows s' behind a unit; b: a comparison may block -/
def SmP (bs : List Int32) (H : List (List Nat)) (P : Nat → Prop) (b : Prop) (x : Xs) (st : Pk) (s' : Es) : Prop :=
  (s'.1.2.1 ≠ 0 → ∃ r, Rn bs H x r ∧ r.1.2 = s'.1.2) ∧
  (s'.1.2.1 = 0 → (P (rk bs s'.1.1) ∧ ∀ r, Rn bs H (false, st, s') r → ∃ r', Rn bs H x r' ∧ eqv r' r) ∨ (b ∧ rk bs s'.1.1 = 4 ∧ ∃ r, Rn bs H x r ∧ r.1.2 = (eRfu bs s').1.2))
def Un (p : Es → Es) : Prop := ∀ s, s.1.2.1 = 0 → s.2.2 ≤ 40 → (p s).1.2.1 = 0 → s.2.2 < (p s).2.2 ∧ (p s).2.2 ≤ 40
theorem lps_bad {o : Nat → Option Nat} {p : Es → Es} {s : Es} (h : s.1.2.1 ≠ 0) (n : Nat) : lps bs o p n s = s := by
  cases n with
  | zero => rfl
  | succ n => rw [lps, if_neg h]
theorem loop_ok {R : Nat} {o : Nat → Option Nat} (ho : ∀ i, o i = if rk bs i = R then some (opc bs i) else none) {b : Prop} {P : Nat → Prop} {st : Pk} (hst : st ≠ []) (hG : topR st < R ∨ 7 ≤ topR st) (hR : R ≠ 4 ∧ 0 < R ∧ R ≤ 6) (hb : b → R ≤ 3) (hP : ∀ k, P k → k ≤ R) {p : Es → Es}
    (hp : ∀ c s, s.1.2.1 = 0 → s.2.2 ≤ 40 → SmP bs H P b (true, (R, c) :: st, s) ((R, c) :: st) (p s)) (hU : Un p) (x : Xs) : ∀ (n : Nat) (s : Es), s.1.2.1 = 0 → s.2.2 ≤ 40 → 41 ≤ n + s.2.2 → SmP bs H P b x st s →
    SmP bs H (fun k => P k ∧ k ≠ R) b x st (lps bs o p n s) := by
  intro n
  induction n with
  | zero => intro s _ h1 h2; omega
  | succ n ih =>
    intro s hg hu hn hx
    rw [lps, if_pos hg, ho]
    by_cases c : rk bs s.1.1 = R
    · rw [if_pos c]
      show SmP bs H (fun k => P k ∧ k ≠ R) b x st (lps bs o p n (ae (opc bs s.1.1) (p (eAdv bs s))))
      have hx2 : ∀ r, Rn bs H (false, st, s) r → ∃ r', Rn bs H x r' ∧ eqv r' r := by
        rcases hx.2 hg with h | h
        · exact h.2
        · have := hb h.1; omega
      have e1 : stp bs H (false, st, s) = (true, (R, opc bs s.1.1) :: st, eAdv bs s) := by
        show stB bs st s = _
        unfold stB
        rw [c, if_neg (by omega), if_pos (by omega), pops_keep hG]
      have hx3 : ∀ r, Rn bs H (true, (R, opc bs s.1.1) :: st, eAdv bs s) r → ∃ r', Rn bs H x r' ∧ eqv r' r := fun r hr => hx2 r (Rn_step (x := (false, st, s)) hg hst (by rw [e1]; exact hr))
      have h1 := hp (opc bs s.1.1) (eAdv bs s) hg hu
      have h2 := hU (eAdv bs s) hg hu
      generalize p (eAdv bs s) = s1 at *
      by_cases g : s1.1.2.1 = 0
      · have h3 := h2 g
        have hu3 : s.2.2 < s1.2.2 := h3.1
        refine ih (ae (opc bs s.1.1) s1) g h3.2 (by show 41 ≤ n + s1.2.2; omega) ?_
        refine ⟨fun q => absurd g q, fun _ => ?_⟩
        rcases h1.2 g with ⟨k1, k2⟩ | ⟨k1, k2, r, k3, k4⟩
        · left
          refine ⟨k1, fun r hr => ?_⟩
          obtain ⟨r1, q1, q2⟩ := pop_ok (t := (R, opc bs s.1.1)) hR.2.2 (hP _ k1) (by intro q; exact hR.1 q.2) g hst hr
          obtain ⟨r2, q3, q4⟩ := k2 r1 q1
          obtain ⟨r3, q5, q6⟩ := hx3 r2 q3
          exact ⟨r3, q5, q6.trans (q4.trans q2)⟩
        · right
          obtain ⟨r3, q5, q6⟩ := hx3 r k3
          exact ⟨k1, k2, r3, q5, q6.1.trans k4⟩
      · rw [lps_bad (by exact g)]
        refine ⟨fun _ => ?_, fun q => absurd q g⟩
        obtain ⟨r, q1, q2⟩ := h1.1 g
        obtain ⟨r3, q5, q6⟩ := hx3 r q1
        exact ⟨r3, q5, q6.1.trans q2⟩
    · rw [if_neg c]
      show SmP bs H (fun k => P k ∧ k ≠ R) b x st s
      refine ⟨hx.1, fun _ => ?_⟩
      rcases hx.2 hg with h | h
      · exact Or.inl ⟨⟨h.1, c⟩, h.2⟩
      · exact Or.inr h
theorem lps_un {o : Nat → Option Nat} {p : Es → Es} (hU : Un p) : ∀ (n : Nat) (s : Es), s.1.2.1 = 0 → s.2.2 ≤ 40 → (lps bs o p n s).1.2.1 = 0 → s.2.2 ≤ (lps bs o p n s).2.2 ∧ (lps bs o p n s).2.2 ≤ 40 := by
  intro n
  induction n with
  | zero => intro s _ h _; exact ⟨Nat.le_refl _, h⟩
  | succ n ih =>
    intro s hg hu h
    rw [lps, if_pos hg] at h ⊢
    cases e : o s.1.1 with
    | none => exact ⟨Nat.le_refl _, hu⟩
    | some c =>
      rw [e] at h
      show _ ≤ (lps bs o p n (ae c (p (eAdv bs s)))).2.2 ∧ (lps bs o p n (ae c (p (eAdv bs s)))).2.2 ≤ 40
      have h : (lps bs o p n (ae c (p (eAdv bs s)))).1.2.1 = 0 := h
      by_cases g : (p (eAdv bs s)).1.2.1 = 0
      · have h1 := hU (eAdv bs s) hg hu g
        have h2 := ih (ae c (p (eAdv bs s))) g h1.2 h
        have h3 : s.2.2 < (p (eAdv bs s)).2.2 := h1.1
        have h4 : (p (eAdv bs s)).2.2 ≤ (lps bs o p n (ae c (p (eAdv bs s)))).2.2 := h2.1
        exact ⟨by omega, h2.2⟩
      · rw [lps_bad (by exact g)] at h; exact absurd h g
end
