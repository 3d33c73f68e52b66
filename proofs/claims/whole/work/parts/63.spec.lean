/-! HOW HOUSES STAND: a row of rows; a pull -/
abbrev Ar : Type := List (List Nat)
def rl (L : Ar) (r : Nat) : List Nat := L.getD r []
def cum (L : Ar) : Nat → Nat
  | 0 => 0
  | r + 1 => cum L r + (rl L r).length
def fl (p : List Nat) (L : Ar) : List Nat := L.flatMap (fun x => p ++ x)
def sg (L : Ar) (f m : Nat) : List Nat := (rl L f).drop ((rl L f).length - m)
def mv (L : Ar) (f m t : Nat) : Ar := (L.set f ((rl L f).take ((rl L f).length - m))).set t (rl L t ++ sg L f m)
def WA (R H : Nat) (L : Ar) : Prop := L.length = R ∧ (fl [] L).Perm (List.range H)
theorem gd_l {α : Type} {a b : List α} {n : Nat} (d : α) (h : n < a.length) : (a ++ b).getD n d = a.getD n d := by
  rw [List.getD_eq_getElem?_getD, List.getD_eq_getElem?_getD, List.getElem?_append_left h]
theorem gd_r {α : Type} {a b : List α} {n : Nat} (d : α) (h : a.length ≤ n) : (a ++ b).getD n d = b.getD (n - a.length) d := by
  rw [List.getD_eq_getElem?_getD, List.getD_eq_getElem?_getD, List.getElem?_append_right h]
theorem gd_big {α : Type} {a : List α} {n : Nat} (d : α) (h : a.length ≤ n) : a.getD n d = d := by
  rw [List.getD_eq_getElem?_getD, List.getElem?_eq_none h]; rfl
theorem gd_take {α : Type} {a : List α} {n k : Nat} (d : α) (h : k < n) : (a.take n).getD k d = a.getD k d := by
  rw [List.getD_eq_getElem?_getD, List.getD_eq_getElem?_getD, List.getElem?_take_of_lt h]
theorem gd_drop {α : Type} {a : List α} {n k : Nat} (d : α) : (a.drop n).getD k d = a.getD (n + k) d := by
  rw [List.getD_eq_getElem?_getD, List.getD_eq_getElem?_getD, List.getElem?_drop]
theorem gd_mem {α : Type} {a : List α} {n : Nat} (d : α) (h : n < a.length) : a.getD n d ∈ a := by
  rw [List.getD_eq_getElem?_getD, List.getElem?_eq_getElem h]; exact List.getElem_mem h
theorem gd_set {α : Type} (a : List α) (n k : Nat) (v d : α) (h : n < a.length) : (a.set n v).getD k d = if k = n then v else a.getD k d := by
  rw [List.getD_eq_getElem?_getD, List.getD_eq_getElem?_getD]
  by_cases e : k = n
  · subst e; simp [h]
  · rw [List.getElem?_set_ne (Ne.symm e), if_neg e]
theorem rl_nil (r : Nat) : rl [] r = [] := by simp [rl]
theorem rl_zero (x : List Nat) (L : Ar) : rl (x :: L) 0 = x := by simp [rl]
theorem rl_succ (x : List Nat) (L : Ar) (r : Nat) : rl (x :: L) (r + 1) = rl L r := by simp [rl]
theorem cum_succ (L : Ar) (r : Nat) : cum L (r + 1) = cum L r + (rl L r).length := rfl
theorem cum_cons (x : List Nat) (L : Ar) : ∀ r, cum (x :: L) (r + 1) = x.length + cum L r
  | 0 => by simp [cum, rl_zero]
  | r + 1 => by rw [cum, cum_cons x L r, rl_succ, cum]; omega
theorem cum_mono (L : Ar) {a : Nat} : ∀ {b : Nat}, a ≤ b → cum L a ≤ cum L b
  | 0, h => by rw [Nat.le_zero.mp h]; exact Nat.le_refl _
  | b + 1, h => by
    by_cases e : a = b + 1
    · rw [e]; exact Nat.le_refl _
    · have := cum_mono L (a := a) (b := b) (by omega); rw [cum]; omega
theorem fl_nil (p : List Nat) : fl p [] = [] := rfl
theorem fl_cons (p x : List Nat) (L : Ar) : fl p (x :: L) = p ++ x ++ fl p L := by simp [fl]
theorem fl_app (p : List Nat) (A B : Ar) : fl p (A ++ B) = fl p A ++ fl p B := by simp [fl]
theorem fl_len (p : List Nat) : ∀ (L : Ar), (fl p L).length = cum L L.length + L.length * p.length
  | [] => by simp [fl, cum]
  | x :: L => by
    have := fl_len p L
    rw [fl_cons, List.length_cons, cum_cons, List.length_append, List.length_append, this, Nat.add_mul]; omega
theorem fl_len0 (L : Ar) : (fl [] L).length = cum L L.length := by rw [fl_len]; simp
theorem rl_app (A B : Ar) (k : Nat) : rl (A ++ B) (A.length + k) = rl B k := by
  rw [rl, gd_r _ (by omega), show A.length + k - A.length = k by omega]; rfl
theorem rl_app0 (A B : Ar) : rl (A ++ B) A.length = rl B 0 := rl_app A B 0
theorem cum_app (B : Ar) (k : Nat) : ∀ (A : Ar), cum (A ++ B) (A.length + k) = cum A A.length + cum B k
  | [] => by simp [cum]
  | x :: A => by
    have := cum_app B k A
    rw [List.cons_append, List.length_cons, show A.length + 1 + k = A.length + k + 1 by omega, cum_cons, cum_cons, this]; omega
theorem fl_get (p : List Nat) (i : Nat) : ∀ (L : Ar) (r : Nat), i < (rl L r).length → (fl p L).getD (cum L r + (r + 1) * p.length + i) 0 = (rl L r).getD i 0
  | [], r, h => by simp [rl_nil] at h
  | x :: L, 0, h => by
    rw [rl_zero] at *
    rw [fl_cons, gd_l _ (by rw [List.length_append, cum]; omega), gd_r _ (by rw [cum]; omega)]
    congr 1
    rw [cum]; omega
  | x :: L, r + 1, h => by
    rw [rl_succ] at *
    have := fl_get p i L r h
    rw [cum_cons, fl_cons, gd_r _ (by rw [List.length_append, Nat.add_mul]; omega), ← this]
    congr 1
    rw [List.length_append, Nat.add_mul (r + 1) 1]; omega
theorem fl_get0 {L : Ar} {r i : Nat} (h : i < (rl L r).length) : (fl [] L).getD (cum L r + i) 0 = (rl L r).getD i 0 := by
  have := fl_get [] i L r h
  simpa using this
theorem fl_sep : ∀ (L : Ar) (r : Nat), r < L.length → (fl [8] L).getD (cum L r + r) 0 = 8
  | [], r, h => by simp at h
  | x :: L, 0, h => by rw [fl_cons]; simp [cum]
  | x :: L, r + 1, h => by
    have := fl_sep L r (by simpa using h)
    rw [cum_cons, fl_cons, gd_r _ (by rw [List.length_append]; simp; omega)]
    refine Eq.trans ?_ this
    congr 1
    rw [List.length_append]; simp; omega
theorem split2 {L : Ar} {f t : Nat} (h : f < t) (ht : t < L.length) : ∃ A x B y C, L = A ++ x :: (B ++ y :: C) ∧ A.length = f ∧ B.length + f + 1 = t := by
  refine ⟨L.take f, L[f], (L.drop (f + 1)).take (t - f - 1), L[t], L.drop (t + 1), ?_, ?_, ?_⟩
  · apply List.ext_getElem?
    intro i
    have hf : (L.take f).length = f := by rw [List.length_take]; omega
    have hB : ((L.drop (f + 1)).take (t - f - 1)).length = t - f - 1 := by rw [List.length_take, List.length_drop]; omega
    by_cases h1 : i < f
    · rw [List.getElem?_append_left (by omega), List.getElem?_take_of_lt h1]
    · rw [List.getElem?_append_right (by omega), hf]
      by_cases h2 : i = f
      · subst h2; simp
      · obtain ⟨j, rfl⟩ : ∃ j, i = f + 1 + j := ⟨i - f - 1, by omega⟩
        rw [show f + 1 + j - f = j + 1 by omega, List.getElem?_cons_succ]
        by_cases h3 : j < t - f - 1
        · rw [List.getElem?_append_left (by omega), List.getElem?_take_of_lt h3, List.getElem?_drop]
        · rw [List.getElem?_append_right (by omega), hB]
          by_cases h4 : j = t - f - 1
          · subst h4
            rw [show f + 1 + (t - f - 1) = t by omega]; simp [ht]
          · obtain ⟨k, rfl⟩ : ∃ k, j = t - f - 1 + 1 + k := ⟨j - (t - f - 1) - 1, by omega⟩
            rw [show t - f - 1 + 1 + k - (t - f - 1) = k + 1 by omega, List.getElem?_cons_succ, List.getElem?_drop]
            congr 1; omega
  · rw [List.length_take]; omega
  · rw [List.length_take, List.length_drop]; omega
theorem sg_len {L : Ar} {f m : Nat} (hm : m ≤ (rl L f).length) : (sg L f m).length = m := by
  rw [sg, List.length_drop]; omega
theorem mv_len (L : Ar) (f m t : Nat) : (mv L f m t).length = L.length := by simp [mv]
theorem mv_rl {L : Ar} {f m t : Nat} (hf : f < L.length) (ht : t < L.length) (r : Nat) :
    rl (mv L f m t) r = if r = t then rl L t ++ sg L f m else if r = f then (rl L f).take ((rl L f).length - m) else rl L r := by
  rw [rl, mv, gd_set _ _ _ _ _ (by simp [ht])]
  split
  · rfl
  · rw [gd_set _ _ _ _ _ hf]; rfl
/-- the two stretches that change places -/
theorem mv_lt (p : List Nat) {L : Ar} {f m t : Nat} (h : f < t) (ht : t < L.length) (hm : m ≤ (rl L f).length) :
    ∃ P Q S, fl p L = P ++ (sg L f m ++ (Q ++ S)) ∧ fl p (mv L f m t) = P ++ (Q ++ (sg L f m ++ S)) ∧ P.length + m = cum L (f + 1) + (f + 1) * p.length ∧ Q.length + cum L (f + 1) = cum L (t + 1) + (t - f) * p.length := by
  obtain ⟨A, x, B, y, C, rfl, rfl, hB⟩ := split2 h ht
  have e1 : rl (A ++ x :: (B ++ y :: C)) A.length = x := by rw [rl_app0, rl_zero]
  have e2 : rl (A ++ x :: (B ++ y :: C)) t = y := by
    rw [show t = A.length + (B.length + 1) by omega, rl_app, rl_succ, rl_app0, rl_zero]
  have e3 : mv (A ++ x :: (B ++ y :: C)) A.length m t = A ++ x.take (x.length - m) :: (B ++ (y ++ x.drop (x.length - m)) :: C) := by
    rw [mv, sg, e1, e2, show t = A.length + (B.length + 1) by omega]
    simp
  have c1 : cum (A ++ x :: (B ++ y :: C)) (A.length + 1) = cum A A.length + x.length := by rw [cum_app, cum_cons]; rfl
  have c2 : cum (A ++ x :: (B ++ y :: C)) (t + 1) = cum A A.length + (x.length + (cum B B.length + y.length)) := by
    rw [show t + 1 = A.length + (B.length + 1 + 1) by omega, cum_app, cum_cons, cum_app, cum_cons]; rfl
  rw [e1] at hm
  refine ⟨fl p A ++ (p ++ x.take (x.length - m)), fl p B ++ (p ++ y), fl p C, ?_, ?_, ?_, ?_⟩
  · rw [sg, e1, fl_app, fl_cons, fl_app, fl_cons]
    conv => lhs; rw [← List.take_append_drop (x.length - m) x]
    simp only [List.append_assoc]
  · rw [e3, sg, e1, fl_app, fl_cons, fl_app, fl_cons]
    simp only [List.append_assoc]
  · rw [c1, List.length_append, List.length_append, List.length_take, fl_len, Nat.add_mul]; omega
  · rw [c1, c2, List.length_append, List.length_append, fl_len, show t - A.length = B.length + 1 by omega, Nat.add_mul]; omega
theorem mv_gt (p : List Nat) {L : Ar} {f m t : Nat} (h : t < f) (hf : f < L.length) (hm : m ≤ (rl L f).length) :
    ∃ P Q S, fl p L = P ++ (Q ++ (sg L f m ++ S)) ∧ fl p (mv L f m t) = P ++ (sg L f m ++ (Q ++ S)) ∧ P.length = cum L (t + 1) + (t + 1) * p.length ∧ Q.length + cum L (t + 1) + m = cum L (f + 1) + (f - t) * p.length := by
  obtain ⟨A, y, B, x, C, rfl, rfl, hB⟩ := split2 h hf
  have e1 : rl (A ++ y :: (B ++ x :: C)) A.length = y := by rw [rl_app0, rl_zero]
  have e2 : rl (A ++ y :: (B ++ x :: C)) f = x := by
    rw [show f = A.length + (B.length + 1) by omega, rl_app, rl_succ, rl_app0, rl_zero]
  have e3 : mv (A ++ y :: (B ++ x :: C)) f m A.length = A ++ (y ++ x.drop (x.length - m)) :: (B ++ x.take (x.length - m) :: C) := by
    rw [mv, sg, e1, e2, show f = A.length + (B.length + 1) by omega]
    simp
  have c1 : cum (A ++ y :: (B ++ x :: C)) (A.length + 1) = cum A A.length + y.length := by rw [cum_app, cum_cons]; rfl
  have c2 : cum (A ++ y :: (B ++ x :: C)) (f + 1) = cum A A.length + (y.length + (cum B B.length + x.length)) := by
    rw [show f + 1 = A.length + (B.length + 1 + 1) by omega, cum_app, cum_cons, cum_app, cum_cons]; rfl
  rw [e2] at hm
  refine ⟨fl p A ++ (p ++ y), fl p B ++ (p ++ x.take (x.length - m)), fl p C, ?_, ?_, ?_, ?_⟩
  · rw [sg, e2, fl_app, fl_cons, fl_app, fl_cons]
    conv => lhs; rw [← List.take_append_drop (x.length - m) x]
    simp only [List.append_assoc]
  · rw [e3, sg, e2, fl_app, fl_cons, fl_app, fl_cons]
    simp only [List.append_assoc]
  · rw [c1, List.length_append, List.length_append, fl_len, Nat.add_mul]; omega
  · rw [c1, c2, List.length_append, List.length_append, List.length_take, fl_len, show f - A.length = B.length + 1 by omega, Nat.add_mul]; omega
theorem mv_perm {L : Ar} {f m t : Nat} (h : f ≠ t) (hf : f < L.length) (ht : t < L.length) (hm : m ≤ (rl L f).length) : (fl [] (mv L f m t)).Perm (fl [] L) := by
  rcases Nat.lt_or_gt_of_ne h with h | h
  · obtain ⟨P, Q, S, e1, e2, -, -⟩ := mv_lt [] h ht hm
    rw [e1, e2]
    refine List.Perm.append_left P ?_
    rw [← List.append_assoc, ← List.append_assoc]
    exact List.Perm.append_right S List.perm_append_comm
  · obtain ⟨P, Q, S, e1, e2, -, -⟩ := mv_gt [] h hf hm
    rw [e1, e2]
    refine List.Perm.append_left P ?_
    rw [← List.append_assoc, ← List.append_assoc]
    exact List.Perm.append_right S List.perm_append_comm
theorem WA.mvd {R H : Nat} {L : Ar} (w : WA R H L) {f m t : Nat} (h : f ≠ t) (hf : f < R) (ht : t < R) (hm : m ≤ (rl L f).length) : WA R H (mv L f m t) :=
  ⟨(mv_len L f m t).trans w.1, (mv_perm h (by rw [w.1]; exact hf) (by rw [w.1]; exact ht) hm).trans w.2⟩
theorem WA.cumR {R H : Nat} {L : Ar} (w : WA R H L) : cum L R = H := by
  have := w.2.length_eq
  rw [fl_len0, w.1, List.length_range] at this; exact this
theorem WA.le {R H : Nat} {L : Ar} (w : WA R H L) {r : Nat} (h : r ≤ R) : cum L r ≤ H := by
  have := cum_mono L h; rw [w.cumR] at this; exact this
theorem WA.len {R H : Nat} {L : Ar} (w : WA R H L) : (fl [] L).length = H := by rw [fl_len0, w.1, w.cumR]
theorem WA.lt {R H : Nat} {L : Ar} (w : WA R H L) {h : Nat} : h ∈ fl [] L ↔ h < H := by rw [w.2.mem_iff, List.mem_range]
theorem rl_sub {L : Ar} {r h : Nat} (hh : h ∈ rl L r) : h ∈ fl [] L := by
  unfold rl at hh
  rw [List.getD_eq_getElem?_getD] at hh
  cases e : L[r]? with
  | none => rw [e] at hh; cases hh
  | some x =>
    rw [e] at hh
    have := List.mem_of_getElem? e
    rw [fl, List.mem_flatMap]
    exact ⟨x, this, by simpa using hh⟩
theorem WA.gd {R H : Nat} {L : Ar} (w : WA R H L) {k : Nat} (h : k < H) : (fl [] L).getD k 0 < H := w.lt.mp (gd_mem _ (by rw [w.len]; exact h))
theorem mv_back {L : Ar} {f m t : Nat} (h : f ≠ t) (hf : f < L.length) (ht : t < L.length) (hm : m ≤ (rl L f).length) : mv (mv L f m t) t m f = L := by
  have hs := sg_len hm
  have e1 : rl (mv L f m t) t = rl L t ++ sg L f m := by rw [mv_rl hf ht, if_pos rfl]
  have e2 : rl (mv L f m t) f = (rl L f).take ((rl L f).length - m) := by rw [mv_rl hf ht, if_neg h, if_pos rfl]
  have e3 : sg (mv L f m t) t m = sg L f m := by
    rw [sg, e1, List.length_append, hs, show (rl L t).length + m - m = (rl L t).length by omega, List.drop_left]
  have e4 : (rl L t ++ sg L f m).take ((rl L t ++ sg L f m).length - m) = rl L t := by
    rw [List.length_append, hs, show (rl L t).length + m - m = (rl L t).length by omega, List.take_left]
  have e5 : (rl L f).take ((rl L f).length - m) ++ sg L f m = rl L f := List.take_append_drop _ _
  apply List.ext_getElem?
  intro i
  rw [mv, e1, e2, e3, e4, e5]
  have g : ∀ r, r < L.length → L[r]? = some (rl L r) := by
    intro r hr
    rw [rl, List.getD_eq_getElem?_getD, List.getElem?_eq_getElem hr]; rfl
  by_cases hi : i = f
  · subst hi; rw [List.getElem?_set_self (by simp [mv, hf]), g _ hf]
  · rw [List.getElem?_set_ne (Ne.symm hi)]
    by_cases hj : i = t
    · subst hj; rw [List.getElem?_set_self (by simp [mv, ht]), g _ ht]
    · rw [List.getElem?_set_ne (Ne.symm hj), mv, List.getElem?_set_ne (Ne.symm hj), List.getElem?_set_ne (Ne.symm hi)]
theorem mv_cum {L : Ar} {f m t : Nat} (h : f ≠ t) (hf : f < L.length) (ht : t < L.length) (hm : m ≤ (rl L f).length) : ∀ r, cum (mv L f m t) r + (if f < r then m else 0) = cum L r + (if t < r then m else 0)
  | 0 => by simp [cum]
  | r + 1 => by
    have ih := mv_cum h hf ht hm r
    have hs := sg_len hm
    have e := mv_rl (m := m) hf ht r
    have a1 : (if f < r + 1 then m else 0) = (if f < r then m else 0) + if r = f then m else 0 := by
      split <;> split <;> split <;> omega
    have a2 : (if t < r + 1 then m else 0) = (if t < r then m else 0) + if r = t then m else 0 := by
      split <;> split <;> split <;> omega
    rw [cum, cum, a1, a2]
    by_cases h1 : r = t
    · rw [if_pos h1] at e
      rw [e, List.length_append, hs, if_pos h1, if_neg (show ¬ r = f by omega), h1]
      rw [h1] at ih
      omega
    · rw [if_neg h1] at e
      by_cases h2 : r = f
      · rw [if_pos h2] at e
        rw [e, List.length_take, if_neg h1, if_pos h2, h2]
        rw [h2] at ih
        omega
      · rw [if_neg h2] at e
        rw [e, if_neg h1, if_neg h2]
        omega
