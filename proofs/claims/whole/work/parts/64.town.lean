/-! A stretch of an array holds a list -/
def Sg (f : Nat → Int32) : Nat → List Nat → Prop
  | _, [] => True
  | p, x :: l => f p = J x ∧ Sg f (p + 1) l
theorem Sg_app (f : Nat → Int32) (b : List Nat) : ∀ (a : List Nat) (p : Nat), Sg f p (a ++ b) ↔ Sg f p a ∧ Sg f (p + a.length) b
  | [], p => by simp [Sg]
  | x :: a, p => by
    rw [List.cons_append, Sg, Sg, Sg_app f b a (p + 1), List.length_cons, show p + (a.length + 1) = p + 1 + a.length by omega, and_assoc]
theorem Sg_cong {f g : Nat → Int32} : ∀ (a : List Nat) (p : Nat), (∀ i, p ≤ i → i < p + a.length → g i = f i) → Sg f p a → Sg g p a
  | [], _, _, _ => trivial
  | x :: a, p, h, hs => ⟨(h p (Nat.le_refl _) (by rw [List.length_cons]; omega)).trans hs.1, Sg_cong a (p + 1) (fun i h1 h2 => h i (by omega) (by rw [List.length_cons]; omega)) hs.2⟩
theorem Sg_shift {f g : Nat → Int32} (q : Nat) : ∀ (a : List Nat) (p : Nat), (∀ i, i < a.length → g (q + i) = f (p + i)) → Sg f p a → Sg g q a
  | [], _, _, _ => trivial
  | x :: a, p, h, hs => ⟨(h 0 (by rw [List.length_cons]; omega)).trans hs.1, Sg_shift (q + 1) a (p + 1) (fun i h1 => by
      have := h (i + 1) (by rw [List.length_cons]; omega)
      rw [show q + 1 + i = q + (i + 1) by omega, show p + 1 + i = p + (i + 1) by omega]; exact this) hs.2⟩
theorem Sg_get {f : Nat → Int32} : ∀ {a : List Nat} {p i : Nat}, Sg f p a → i < a.length → f (p + i) = J (a.getD i 0)
  | x :: a, p, 0, h, _ => by rw [List.getD_cons_zero]; exact h.1
  | x :: a, p, i + 1, h, hi => by
    rw [List.getD_cons_succ, show p + (i + 1) = p + 1 + i by omega]
    exact Sg_get h.2 (by rw [List.length_cons] at hi; omega)
theorem fl_split (p : List Nat) {L : Ar} {r : Nat} (h : r < L.length) : fl p L = fl p (L.take r) ++ ((p ++ rl L r) ++ fl p (L.drop (r + 1))) ∧ (fl [] (L.take r)).length = cum L r ∧ (fl p (L.take r)).length = cum L r + r * p.length := by
  have e : L = L.take r ++ rl L r :: L.drop (r + 1) := by
    have h1 : L.drop r = rl L r :: L.drop (r + 1) := by
      rw [List.drop_eq_getElem_cons h, rl, List.getD_eq_getElem?_getD, List.getElem?_eq_getElem h]; rfl
    rw [← h1, List.take_append_drop]
  have hl : (L.take r).length = r := by rw [List.length_take]; omega
  have hc : cum (L.take r) (L.take r).length = cum L r := by
    have h2 := cum_app (rl L r :: L.drop (r + 1)) 0 (L.take r)
    rw [← e, hl] at h2
    rw [hl]; simpa [cum] using h2.symm
  refine ⟨?_, ?_, ?_⟩
  · conv => lhs; rw [e]
    rw [fl_app, fl_cons]
  · rw [fl_len0, hc]
  · rw [fl_len, hc, hl]
theorem Sg_rl {f : Nat → Int32} {q : Nat} {L : Ar} {r : Nat} (hs : Sg f q (fl [] L)) (h : r < L.length) : Sg f (q + cum L r) (rl L r) := by
  obtain ⟨e, e2, -⟩ := fl_split [] h
  rw [e, Sg_app, Sg_app, e2] at hs
  exact hs.2.1
theorem sg_split {L : Ar} {f m : Nat} (hm : m ≤ (rl L f).length) : rl L f = (rl L f).take ((rl L f).length - m) ++ sg L f m := (List.take_append_drop _ _).symm
theorem Sg_sg {f : Nat → Int32} {q : Nat} {L : Ar} {r m : Nat} (hs : Sg f q (fl [] L)) (h : r < L.length) (hm : m ≤ (rl L r).length) : Sg f (q + (cum L (r + 1) - m)) (sg L r m) := by
  have h1 := Sg_rl hs h
  rw [sg_split hm, Sg_app, List.length_take] at h1
  have := h1.2
  rw [cum_succ]
  rw [show q + cum L r + min ((rl L r).length - m) (rl L r).length = q + (cum L r + (rl L r).length - m) by omega] at this
  exact this
/-! THE TOWN -/
abbrev Tn : Type := (Nat × Nat × Nat × Nat) × (Nat → Nat) × (Nat → Nat) × (Nat → Nat) × (Nat → Nat → Int) × (Nat → Nat) × List (Nat × Nat) × Nat
def tR (T : Tn) : Nat := T.1.1
def tH (T : Tn) : Nat := T.1.2.1
def tN (T : Tn) : Nat := T.1.2.2.1
def tD (T : Tn) : Nat := T.1.2.2.2
def tL (T : Tn) : Nat → Nat := T.2.1
def tl (T : Tn) : Nat → Nat := T.2.2.1
def tw (T : Tn) : Nat → Nat := T.2.2.2.1
def tW (T : Tn) : Nat → Nat → Int := T.2.2.2.2.1
def tF (T : Tn) : Nat → Nat := T.2.2.2.2.2.1
def tC (T : Tn) : List (Nat × Nat) := T.2.2.2.2.2.2.1
def tU (T : Tn) : Nat := T.2.2.2.2.2.2.2
def fst (T : Tn) : Ar := (List.range (tR T)).map fun r => (List.range (tH T)).filter fun h => tF T h == r
def sm (g : Nat → Nat) (l : List Nat) : Nat := (l.map g).sum
theorem sm_nil (g : Nat → Nat) : sm g [] = 0 := rfl
theorem sm_cons (g : Nat → Nat) (x : Nat) (l : List Nat) : sm g (x :: l) = g x + sm g l := by simp [sm]
theorem sm_app (g : Nat → Nat) (a b : List Nat) : sm g (a ++ b) = sm g a + sm g b := by simp [sm]
theorem sm_perm (g : Nat → Nat) {a b : List Nat} (h : a.Perm b) : sm g a = sm g b := (h.map g).sum_nat
theorem sm_le {g : Nat → Nat} {c : Nat} : ∀ {l : List Nat}, (∀ x, x ∈ l → g x ≤ c) → sm g l ≤ l.length * c
  | [], _ => by simp [sm]
  | x :: l, h => by
    have := sm_le (l := l) (fun y hy => h y (List.mem_cons_of_mem _ hy))
    have h1 := h x List.mem_cons_self
    rw [sm_cons, List.length_cons, Nat.add_mul]; omega
def isP (k : Nat) : Bool := k == 48 || k == 17 || k == 6 || k == 7 || k == 13 || k == 14 || k == 15 || k == 16
def isB (k : Nat) : Bool := k == 43 || k == 45 || k == 42 || k == 47 || k == 60 || k == 62 || k == 61 || k == 11 || k == 10
def two (k : Nat) (a b : Int32) : Int32 :=
  if k = 43 then a + b else if k = 45 then a - b else if k = 42 then a * b else if k = 47 then (if b = 0 then 0 else a / b)
  else if k = 60 then (if a < b then 1 else 0) else if k = 62 then (if b < a then 1 else 0) else if k = 61 then (if a = b then 1 else 0)
  else if k = 11 then (if a = 0 then 0 else if b = 0 then 0 else 1) else (if a = 0 then (if b = 0 then 0 else 1) else 1)
def lawP (g : Nat → Int) (s : List Nat) (o : Nat × Nat) : Int32 := if o.1 = 48 then J o.2 else if o.1 = 17 then (if o.2 ∈ s then 1 else 0) else J (g o.1)
def lawS (g : Nat → Int) (s : List Nat) (st : List Int32) (o : Nat × Nat) : List Int32 :=
  if isP o.1 then lawP g s o :: st
  else if o.1 = 12 then (match st with | x :: r => (if x = 0 then 1 else 0) :: r | [] => [])
  else match st with | b :: a :: r => two o.1 a b :: r | r => r
def lawR (g : Nat → Int) (s : List Nat) : List (Nat × Nat) → List Int32 → List Int32
  | [], st => st
  | o :: c, st => lawR g s c (lawS g s st o)
/-- how high the stack stands behind the steps; none where one finds too little, or stands too high -/
def lawD : List (Nat × Nat) → Nat → Option Nat
  | [], d => some d
  | o :: c, d => if isP o.1 then (if d < 60 then lawD c (d + 1) else none) else if o.1 = 12 then (if 1 ≤ d then lawD c d else none)
    else if isB o.1 then (if 2 ≤ d then lawD c (d - 1) else none) else none
def room (T : Tn) (L : Ar) (r : Nat) : Int := tL T r - sm (tl T) (rl L r)
def given (T : Tn) (L : Ar) (f m t : Nat) (k : Nat) : Int :=
  if k = 6 then sm (tl T) (sg L f m) else if k = 7 then sm (tw T) (sg L f m) else if k = 13 then m else if k = 14 then f else if k = 15 then t else room T L t
def comes (T : Tn) (L : Ar) (f m t : Nat) : Int32 := (lawR (given T L f m t) (sg L f m) (tC T) []).headD 1
def canB (T : Tn) (L : Ar) (f m t : Nat) : Prop := f < tR T ∧ t < tR T ∧ f ≠ t ∧ 1 ≤ m ∧ m ≤ (rl L f).length
def okP (T : Tn) (L : Ar) (f m t : Nat) : Prop := canB T L f m t ∧ sm (tl T) (sg L f m) ≤ tN T ∧ sm (tw T) (sg L f m) ≤ tD T ∧ (sm (tl T) (sg L f m) : Int) ≤ room T L t ∧ comes T L f m t ≠ 0
def worthL (W : Nat → Nat → Int) : List Nat → Int
  | a :: b :: l => W a b + worthL W (b :: l)
  | _ => 0
def worth (T : Tn) (L : Ar) : Int := worthL (tW T) (rl L 0)
def TWf (T : Tn) : Prop := tR T ≤ 5 ∧ tH T ≤ 8 ∧ tN T ≤ 999 ∧ tD T ≤ 999 ∧ (∀ r, r < tR T → tL T r ≤ 300) ∧ (∀ h, h < tH T → 1 ≤ tl T h ∧ tl T h ≤ 9 ∧ 1 ≤ tw T h ∧ tw T h ≤ 99 ∧ tF T h < tR T) ∧
  (∀ a b, -99 ≤ tW T a b ∧ tW T a b ≤ 99) ∧ (tC T = [] ∨ lawD (tC T) 0 = some 1) ∧ (∀ o, o ∈ tC T → o.2 ≤ 9999 ∧ (o.1 = 17 → o.2 < 8)) ∧ (tC T).length ≤ 400 ∧ tU T ≤ 40
