/-! NUMBERS OF STATES: each way to stand has one (houses' places among BETWEENs and lower houses, in a mixed radix) -/
def res (h : Nat) (D : List Nat) : List Nat := D.filter fun x => x == 8 || decide (x < h)
def ps (h : Nat) : List Nat → Nat
  | [] => 0
  | x :: D => if x = h then 0 else (if x = 8 ∨ x < h then 1 else 0) + ps h D
theorem res_app (h : Nat) (X Y : List Nat) : res h (X ++ Y) = res h X ++ res h Y := by unfold res; rw [List.filter_append]
theorem res_mem {h x : Nat} {D : List Nat} : x ∈ res h D ↔ x ∈ D ∧ (x = 8 ∨ x < h) := by
  unfold res; rw [List.mem_filter]; simp
theorem res_cons (h x : Nat) (D : List Nat) : res h (x :: D) = (if x = 8 ∨ x < h then [x] else []) ++ res h D := by
  unfold res
  rw [List.filter_cons]
  by_cases c : x = 8 ∨ x < h
  · rw [if_pos c, if_pos (by simpa using c)]; rfl
  · rw [if_neg c, if_neg (by simpa using c)]; rfl
theorem ps_app (h : Nat) (Y : List Nat) : ∀ X : List Nat, ps h (X ++ Y) = if h ∈ X then ps h X else (res h X).length + ps h Y
  | [] => by simp [ps, res]
  | x :: X => by
    have ih := ps_app h Y X
    rw [List.cons_append, ps, ps, res_cons, List.length_append]
    by_cases e : x = h
    · rw [if_pos e, if_pos e, if_pos (by rw [e]; exact List.mem_cons_self)]
    · rw [if_neg e, if_neg e, ih]
      have hm : h ∈ x :: X ↔ h ∈ X := ⟨fun q => (List.mem_cons.mp q).resolve_left (fun r => e r.symm), fun q => List.mem_cons_of_mem _ q⟩
      by_cases c : h ∈ X
      · rw [if_pos c, if_pos (hm.mpr c)]
      · rw [if_neg c, if_neg (fun q => c (hm.mp q))]
        by_cases c2 : x = 8 ∨ x < h
        · rw [if_pos c2, if_pos c2]; simp; omega
        · rw [if_neg c2, if_neg c2]; simp
theorem ps_mid {h : Nat} {X : List Nat} (hX : h ∉ X) (Y : List Nat) : ps h (X ++ h :: Y) = (res h X).length := by
  rw [ps_app, if_neg hX, ps, if_pos rfl]; rfl
theorem res_suc {h : Nat} {X : List Nat} (hX : h ∉ X) : res (h + 1) X = res h X := by
  unfold res
  apply List.filter_congr
  intro x hx
  have : x ≠ h := fun e => hX (e ▸ hx)
  have e : decide (x < h + 1) = decide (x < h) := by rw [decide_eq_decide]; omega
  rw [e]
theorem ins_mid {h : Nat} (hh : h < 8) {X Y : List Nat} (hX : h ∉ X) (hY : h ∉ Y) : insD (ps h (X ++ h :: Y)) h (res h (X ++ h :: Y)) = res (h + 1) (X ++ h :: Y) ∧ res h (X ++ h :: Y) = res h X ++ res h Y := by
  have e1 : res h (X ++ h :: Y) = res h X ++ res h Y := by rw [res_app, res_cons, if_neg (by omega)]; rfl
  refine ⟨?_, e1⟩
  rw [ps_mid hX, e1, res_app, res_cons, if_pos (by omega), res_suc hX, res_suc hY, insD, List.take_left, List.drop_left]; rfl
def DW (R H : Nat) (D : List Nat) : Prop := D.Perm (List.range H ++ List.replicate (R - 1) 8)
theorem dgs_DW {R H : Nat} {L : Ar} (hL : WA R H L) (hRH : 0 < H → 0 < R) : DW R H (dgs L) := by
  have h1 := fl8_perm L
  rw [hL.1] at h1
  by_cases hR : 0 < R
  · have h2 : fl [8] L = 8 :: dgs L := by
      cases L with
      | nil => have := hL.1; simp at this; omega
      | cons x L => rw [dgs, fl_cons]; rfl
    obtain ⟨R', rfl⟩ : ∃ k, R = k + 1 := ⟨R - 1, by omega⟩
    rw [h2, List.replicate_succ] at h1
    have h3 := (h1.trans List.perm_middle).cons_inv
    exact h3.trans (List.Perm.append_right _ hL.2)
  · have hR0 : R = 0 := by omega
    have hH0 : H = 0 := by omega
    subst hR0 hH0
    have : L = [] := List.length_eq_zero_iff.mp hL.1
    subst this
    exact List.Perm.refl _
section
variable {R H : Nat} {D : List Nat}
theorem DW.mem (w : DW R H D) {x : Nat} (hx : x ∈ D) : x < H ∨ x = 8 := by
  have := w.mem_iff.mp hx
  rw [List.mem_append, List.mem_range] at this
  rcases this with h | h
  · exact Or.inl h
  · exact Or.inr (List.mem_replicate.mp h).2
theorem DW.low (w : DW R H D) (hH : H ≤ 8) : (D.filter fun x => decide (x < 8)).Perm (List.range H) := by
  have h1 := w.filter (fun x => decide (x < 8))
  rw [List.filter_append] at h1
  have e1 : (List.range H).filter (fun x => decide (x < 8)) = List.range H := by
    rw [List.filter_eq_self]; intro a ha; have := List.mem_range.mp ha; simp; omega
  have e2 : (List.replicate (R - 1) 8).filter (fun x => decide (x < 8)) = [] := by
    rw [List.filter_eq_nil_iff]; intro a ha; rw [(List.mem_replicate.mp ha).2]; simp
  rw [e1, e2, List.append_nil] at h1; exact h1
theorem DW.nd (w : DW R H D) (hH : H ≤ 8) : (D.filter fun x => decide (x < 8)).Nodup := (w.low hH).nodup_iff.mpr List.nodup_range
theorem low_not {h : Nat} (hh : h < 8) {X : List Nat} (hX : h ∉ X.filter fun x => decide (x < 8)) : h ∉ X := fun q => hX (List.mem_filter.mpr ⟨q, by simpa using hh⟩)
theorem DW.split (w : DW R H D) (hH : H ≤ 8) {h : Nat} (hh : h < H) : ∃ X Y, D = X ++ h :: Y ∧ h ∉ X ∧ h ∉ Y := by
  have hm : h ∈ D := w.mem_iff.mpr (by rw [List.mem_append, List.mem_range]; exact Or.inl hh)
  obtain ⟨X, Y, rfl⟩ := List.append_of_mem hm
  have nd := w.nd hH
  rw [List.filter_append, List.filter_cons, if_pos (by simp; omega), List.nodup_append, List.nodup_cons] at nd
  refine ⟨X, Y, rfl, low_not (by omega) (fun q => nd.2.2 h q h List.mem_cons_self rfl), low_not (by omega) nd.2.1.1⟩
theorem DW.ins (w : DW R H D) (hH : H ≤ 8) {h : Nat} (hh : h < H) : insD (ps h D) h (res h D) = res (h + 1) D ∧ ps h D ≤ (res h D).length := by
  obtain ⟨X, Y, rfl, hX, hY⟩ := w.split hH hh
  obtain ⟨e1, e2⟩ := ins_mid (show h < 8 by omega) hX hY
  refine ⟨e1, ?_⟩
  rw [e2, ps_mid hX, List.length_append]; omega
theorem DW.res0 (w : DW R H D) (hH : H ≤ 8) : res 0 D = List.replicate (R - 1) 8 := by
  have h1 : (res 0 D).Perm (res 0 (List.range H ++ List.replicate (R - 1) 8)) := w.filter _
  rw [res_app] at h1
  have e1 : res 0 (List.range H) = [] := by
    unfold res; rw [List.filter_eq_nil_iff]; intro a ha; have := List.mem_range.mp ha; simp; omega
  have e2 : res 0 (List.replicate (R - 1) 8) = List.replicate (R - 1) 8 := by
    unfold res; rw [List.filter_eq_self]; intro a ha; rw [(List.mem_replicate.mp ha).2]; rfl
  rw [e1, e2, List.nil_append] at h1
  exact List.perm_replicate.mp h1
theorem DW.resH (w : DW R H D) : res H D = D := by
  unfold res; rw [List.filter_eq_self]; intro a ha; have := w.mem ha; simp; omega
theorem DW.reslen (w : DW R H D) (hH : H ≤ 8) : ∀ h, h ≤ H → (res h D).length = R - 1 + h
  | 0, _ => by rw [w.res0 hH, List.length_replicate]; rfl
  | h + 1, hh => by
    have ih := w.reslen hH h (by omega)
    obtain ⟨e1, e2⟩ := w.ins hH (h := h) (by omega)
    rw [← e1, insD, List.length_append, List.length_cons, List.length_take, List.length_drop]; omega
theorem DW.ps_lt (w : DW R H D) (hH : H ≤ 8) (hR : 0 < H → 0 < R) {h : Nat} (hh : h < H) : ps h D < R + h := by
  have h1 := (w.ins hH hh).2
  rw [w.reslen hH h (by omega)] at h1
  have := hR (by omega); omega
end
/-- the number's digits in the mixed radix, from house h on -/
def tlF (R : Nat) (p : Nat → Nat) (h : Nat) : Nat → Nat
  | 0 => 0
  | d + 1 => p h + (R + h) * tlF R p (h + 1) d
theorem tlF_sum (R : Nat) (p : Nat → Nat) : ∀ d h, ways R h * tlF R p h d = sm (fun j => ways R j * p j) (List.range' h d)
  | 0, h => by rw [tlF]; simp [sm]
  | d + 1, h => by
    have ih := tlF_sum R p d (h + 1)
    rw [List.range'_succ, sm_cons, ← ih, tlF, Nat.mul_add, ← Nat.mul_assoc]; rfl
theorem tlF_lt (R : Nat) (p : Nat → Nat) : ∀ d h, (∀ j, h ≤ j → j < h + d → p j < R + j) → (tlF R p h d + 1) * ways R h ≤ ways R (h + d)
  | 0, h, _ => by rw [tlF]; simp
  | d + 1, h, hp => by
    have ih := tlF_lt R p d (h + 1) (fun j h1 h2 => hp j (by omega) (by omega))
    have h0 := hp h (Nat.le_refl _) (by omega)
    have e : tlF R p h (d + 1) + 1 ≤ (R + h) * (tlF R p (h + 1) d + 1) := by rw [tlF, Nat.mul_add]; omega
    refine Nat.le_trans (Nat.mul_le_mul_right (ways R h) e) ?_
    rw [show h + (d + 1) = h + 1 + d by omega]
    refine Nat.le_trans (Nat.le_of_eq ?_) ih
    rw [ways, Nat.mul_comm (R + h), Nat.mul_assoc, Nat.mul_comm (R + h)]
theorem tlF_eq (R : Nat) (p q : Nat → Nat) : ∀ d h, (∀ j, h ≤ j → j < h + d → p j < R + j ∧ q j < R + j) → tlF R p h d = tlF R q h d → ∀ j, h ≤ j → j < h + d → p j = q j
  | 0, h, _, _, j, h1, h2 => by omega
  | d + 1, h, hp, he, j, h1, h2 => by
    have h0 := hp h (Nat.le_refl _) (by omega)
    rw [tlF, tlF] at he
    have hm : (p h + (R + h) * tlF R p (h + 1) d) % (R + h) = (q h + (R + h) * tlF R q (h + 1) d) % (R + h) := by rw [he]
    rw [Nat.add_mul_mod_self_left, Nat.add_mul_mod_self_left, Nat.mod_eq_of_lt h0.1, Nat.mod_eq_of_lt h0.2] at hm
    by_cases e : j = h
    · rw [e]; exact hm
    · have he2 : tlF R p (h + 1) d = tlF R q (h + 1) d := by
        rw [hm] at he
        exact Nat.eq_of_mul_eq_mul_left (show 0 < R + h by omega) (Nat.add_left_cancel he)
      exact tlF_eq R p q d (h + 1) (fun j a b => hp j (by omega) (by omega)) he2 j (by omega) (by omega)
/-- the number of a list of digits, and of a way to stand -/
def nmD (R H : Nat) (D : List Nat) : Nat := sm (fun h => ways R h * ps h D) (List.range H)
def nm (R H : Nat) (L : Ar) : Nat := nmD R H (dgs L)
theorem nm_tl (R H : Nat) (D : List Nat) : nmD R H D = tlF R (fun h => ps h D) 0 H := by
  have := tlF_sum R (fun h => ps h D) H 0
  rw [ways, Nat.one_mul] at this
  rw [this, nmD, List.range_eq_range']
section
variable {R H : Nat}
theorem nmD_lt {D : List Nat} (w : DW R H D) (hH : H ≤ 8) (hR : 0 < H → 0 < R) : nmD R H D < ways R H := by
  have := tlF_lt R (fun h => ps h D) H 0 (fun j _ hj => w.ps_lt hH hR (by omega))
  rw [← nm_tl, ways, Nat.mul_one, Nat.zero_add] at this
  omega
theorem nmD_inj {D D' : List Nat} (w : DW R H D) (w' : DW R H D') (hH : H ≤ 8) (hR : 0 < H → 0 < R) (h : nmD R H D = nmD R H D') : D = D' := by
  rw [nm_tl, nm_tl] at h
  have hp := tlF_eq R _ _ H 0 (fun j _ hj => ⟨w.ps_lt hH hR (by omega), w'.ps_lt hH hR (by omega)⟩) h
  have key : ∀ h, h ≤ H → res h D = res h D' := by
    intro h
    induction h with
    | zero => intro _; rw [w.res0 hH, w'.res0 hH]
    | succ h ih =>
      intro hh
      rw [← (w.ins hH (h := h) (by omega)).1, ← (w'.ins hH (h := h) (by omega)).1, ih (by omega), hp h (Nat.zero_le _) (by omega)]
  have := key H (Nat.le_refl _)
  rwa [w.resH, w'.resH] at this
theorem nm_lt {L : Ar} (w : WA R H L) (hH : H ≤ 8) (hR : 0 < H → 0 < R) : nm R H L < ways R H := nmD_lt (dgs_DW w hR) hH hR
theorem nm_inj {L L' : Ar} (w : WA R H L) (w' : WA R H L') (hH : H ≤ 8) (hR : 0 < H → 0 < R) (h : nm R H L = nm R H L') : L = L' :=
  dgs_inj w w' hH (nmD_inj (dgs_DW w hR) (dgs_DW w' hR) hH hR h)
end
/-! what a pull adds to the number -/
theorem sm_map_add (f g : Nat → Nat) : ∀ l : List Nat, sm (fun x => f x + g x) l = sm f l + sm g l
  | [] => rfl
  | x :: l => by rw [sm_cons, sm_cons, sm_cons, sm_map_add f g l]; omega
theorem sm_cgr {f g : Nat → Nat} : ∀ {l : List Nat}, (∀ x, x ∈ l → f x = g x) → sm f l = sm g l
  | [], _ => rfl
  | x :: l, h => by rw [sm_cons, sm_cons, h x List.mem_cons_self, sm_cgr (fun y hy => h y (List.mem_cons_of_mem _ hy))]
theorem sm_mul (k : Nat) (g : Nat → Nat) : ∀ l : List Nat, sm (fun x => k * g x) l = k * sm g l
  | [] => rfl
  | x :: l => by rw [sm_cons, sm_cons, sm_mul k g l, Nat.mul_add]
theorem sm_filter (g : Nat → Nat) (p : Nat → Bool) : ∀ l : List Nat, sm g (l.filter p) = sm (fun x => if p x = true then g x else 0) l
  | [] => rfl
  | x :: l => by
    rw [List.filter_cons, sm_cons]
    by_cases c : p x = true
    · rw [if_pos c, if_pos c, sm_cons, sm_filter g p l]
    · rw [if_neg c, if_neg c, sm_filter g p l]; omega
theorem sm_in {g : Nat → Nat} {H : Nat} {B : List Nat} (nd : B.Nodup) (hB : ∀ x, x ∈ B → x < H) : sm (fun h => if h ∈ B then g h else 0) (List.range H) = sm g B := by
  have e : sm (fun h => if h ∈ B then g h else 0) (List.range H) = sm g ((List.range H).filter fun h => decide (h ∈ B)) := by
    rw [sm_filter]; exact sm_cgr (fun x _ => by simp)
  rw [e]
  apply sm_perm
  rw [List.perm_ext_iff_of_nodup (List.Pairwise.sublist List.filter_sublist List.nodup_range) nd]
  intro a
  rw [List.mem_filter, List.mem_range]
  simp only [decide_eq_true_eq]
  exact ⟨fun h => h.2, fun h => ⟨hB a h, h⟩⟩
/-- the number of those below, and the sum of those above, the other way about -/
theorem sm_swap (g : Nat → Nat) (B : List Nat) : ∀ P : List Nat, sm (fun h => g h * (B.filter fun x => decide (x < h)).length) P = sm (fun b => sm g (P.filter fun x => decide (b < x))) B
  | [] => by
    rw [sm_nil]
    induction B with
    | nil => rfl
    | cons b B ih => rw [sm_cons, ← ih]; rfl
  | p :: P => by
    have ih := sm_swap g B P
    rw [sm_cons, ih]
    have e : sm (fun b => sm g ((p :: P).filter fun x => decide (b < x))) B = sm (fun b => (if b < p then g p else 0) + sm g (P.filter fun x => decide (b < x))) B := by
      apply sm_cgr
      intro b _
      rw [List.filter_cons]
      by_cases c : b < p
      · rw [if_pos (by simpa using c), if_pos c, sm_cons]
      · rw [if_neg (by simpa using c), if_neg c]; omega
    rw [e, sm_map_add]
    congr 1
    clear e ih
    induction B with
    | nil => rfl
    | cons b B ih =>
      rw [List.filter_cons, sm_cons, ← ih]
      by_cases c : b < p
      · rw [if_pos (by simpa using c), if_pos c, List.length_cons, Nat.mul_succ]; omega
      · rw [if_neg (by simpa using c), if_neg c]; omega
/-- by how much the number is more, for those drawn past others -/
def tvL (g : Nat → Nat) (B P : List Nat) : Int := ((sm (fun h => g h * (P.filter fun x => decide (x < h)).length) B : Nat) : Int) - ((sm (fun b => sm g (P.filter fun x => decide (b < x))) B : Nat) : Int)
theorem res_len {h : Nat} (hh : h ≤ 8) (P : List Nat) : (res h P).length = (P.filter fun x => x == 8).length + ((P.filter fun x => decide (x < 8)).filter fun x => decide (x < h)).length := by
  induction P with
  | nil => rfl
  | cons x P ih =>
    rw [res_cons, List.length_append, ih, List.filter_cons, List.filter_cons]
    by_cases c : x = 8
    · rw [if_pos (Or.inl c), if_pos (by simpa using c), if_neg (by simp; omega)]; simp; omega
    · rw [if_neg (show ¬ (x == 8) = true by simpa using c)]
      by_cases c2 : x < h
      · rw [if_pos (Or.inr c2), if_pos (by simp; omega), List.filter_cons, if_pos (by simpa using c2)]; simp; omega
      · rw [if_neg (by omega)]
        by_cases c3 : x < 8
        · rw [if_pos (by simpa using c3), List.filter_cons, if_neg (by simpa using c2)]; simp
        · rw [if_neg (by simpa using c3)]; simp
theorem ps_swap {R H : Nat} {A B P C : List Nat} (hH : H ≤ 8) (w : DW R H (A ++ (B ++ (P ++ C)))) {h : Nat} (hh : h < H) :
    ps h (A ++ (P ++ (B ++ C))) + (if h ∈ P then (res h B).length else 0) = ps h (A ++ (B ++ (P ++ C))) + (if h ∈ B then (res h P).length else 0) := by
  have nd := w.nd hH
  have hf : ∀ X : List Nat, h ∈ X → h ∈ X.filter fun x => decide (x < 8) := fun X hx => List.mem_filter.mpr ⟨hx, by simp; omega⟩
  simp only [List.filter_append] at nd
  rw [List.nodup_append, List.nodup_append, List.nodup_append] at nd
  obtain ⟨-, ⟨-, ⟨-, -, n3⟩, n2⟩, n1⟩ := nd
  rw [ps_app h (P ++ (B ++ C)) A, ps_app h (B ++ (P ++ C)) A]
  by_cases cA : h ∈ A
  · have hB : h ∉ B := fun q => n1 h (hf _ cA) h (List.mem_append_left _ (hf _ q)) rfl
    have hP : h ∉ P := fun q => n1 h (hf _ cA) h (List.mem_append_right _ (List.mem_append_left _ (hf _ q))) rfl
    rw [if_pos cA, if_pos cA, if_neg hP, if_neg hB]
  · rw [if_neg cA, if_neg cA, ps_app h (B ++ C) P, ps_app h (P ++ C) B, ps_app h C B, ps_app h C P]
    by_cases cB : h ∈ B
    · have hP : h ∉ P := fun q => n2 h (hf _ cB) h (List.mem_append_left _ (hf _ q)) rfl
      rw [if_pos cB, if_pos cB, if_neg hP, if_neg hP, if_pos cB]; omega
    · rw [if_neg cB, if_neg cB, if_neg cB]
      by_cases cP : h ∈ P
      · rw [if_pos cP, if_pos cP, if_pos cP]; omega
      · rw [if_neg cP, if_neg cP, if_neg cP]; omega
/-- two stretches change places: what that adds to the number -/
theorem nm_swap {R H : Nat} {A B P C : List Nat} (hH : H ≤ 8) (w : DW R H (A ++ (B ++ (P ++ C)))) (hB : ∀ x, x ∈ B → x < H) :
    ((nmD R H (A ++ (P ++ (B ++ C))) : Nat) : Int) = (nmD R H (A ++ (B ++ (P ++ C))) : Nat) + (((P.filter fun x => x == 8).length * sm (ways R) B : Nat) : Int) + tvL (ways R) B (P.filter fun x => decide (x < 8)) := by
  have hm : ∀ x, x ∈ A ++ (B ++ (P ++ C)) → x < H ∨ x = 8 := fun x hx => w.mem hx
  have nd := w.nd hH
  simp only [List.filter_append] at nd
  rw [List.nodup_append, List.nodup_append, List.nodup_append] at nd
  obtain ⟨-, ⟨nB, ⟨nP, -, -⟩, -⟩, -⟩ := nd
  have eB : B.filter (fun x => decide (x < 8)) = B := by
    rw [List.filter_eq_self]; intro a ha; have := hB a ha; simp; omega
  rw [eB] at nB
  have hP : ∀ x, x ∈ P.filter (fun x => decide (x < 8)) → x < H := fun x hx => by
    obtain ⟨h1, h2⟩ := List.mem_filter.mp hx
    have h2 : x < 8 := by simpa using h2
    rcases hm x (by simp [h1]) with h | h
    · exact h
    · omega
  have e1 : nmD R H (A ++ (P ++ (B ++ C))) + sm (fun h => if h ∈ P.filter (fun x => decide (x < 8)) then ways R h * (res h B).length else 0) (List.range H) = nmD R H (A ++ (B ++ (P ++ C))) + sm (fun h => if h ∈ B then ways R h * (res h P).length else 0) (List.range H) := by
    unfold nmD
    rw [← sm_map_add, ← sm_map_add]
    apply sm_cgr
    intro h hh
    have hh := List.mem_range.mp hh
    have := congrArg (fun z => ways R h * z) (ps_swap hH w hh)
    simp only [Nat.mul_add] at this
    have i1 : (h ∈ P.filter fun x => decide (x < 8)) ↔ h ∈ P := by
      rw [List.mem_filter]; simp; omega
    by_cases c : h ∈ P
    · by_cases c2 : h ∈ B
      · rw [if_pos c, if_pos c2] at this; rw [if_pos (i1.mpr c), if_pos c2]; exact this
      · rw [if_pos c, if_neg c2] at this; rw [if_pos (i1.mpr c), if_neg c2]; exact this
    · by_cases c2 : h ∈ B
      · rw [if_neg c, if_pos c2] at this; rw [if_neg (fun q => c (i1.mp q)), if_pos c2]; exact this
      · rw [if_neg c, if_neg c2] at this; rw [if_neg (fun q => c (i1.mp q)), if_neg c2]; exact this
  rw [sm_in nP hP, sm_in nB hB] at e1
  have e2 : sm (fun h => ways R h * (res h B).length) (P.filter fun x => decide (x < 8)) = sm (fun b => sm (ways R) ((P.filter fun x => decide (x < 8)).filter fun x => decide (b < x))) B := by
    rw [← sm_swap]
    apply sm_cgr
    intro h hh
    have := hP h hh
    rw [res_len (by omega), eB]
    have : (B.filter fun x => x == 8) = [] := by
      rw [List.filter_eq_nil_iff]; intro a ha; have := hB a ha; simp; omega
    rw [this]; simp
  have e3 : sm (fun h => ways R h * (res h P).length) B = (P.filter fun x => x == 8).length * sm (ways R) B + sm (fun h => ways R h * ((P.filter fun x => decide (x < 8)).filter fun x => decide (x < h)).length) B := by
    have : sm (fun h => ways R h * (res h P).length) B = sm (fun h => (P.filter fun x => x == 8).length * ways R h + ways R h * ((P.filter fun x => decide (x < 8)).filter fun x => decide (x < h)).length) B := by
      apply sm_cgr
      intro h hh
      have := hB h hh
      rw [res_len (by omega), Nat.mul_add, Nat.mul_comm (ways R h) (P.filter _).length]
    rw [this, sm_map_add, sm_mul]
  rw [e2, e3] at e1
  unfold tvL
  omega
