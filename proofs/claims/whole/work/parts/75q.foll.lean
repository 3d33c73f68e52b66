/-! WHERE PULLS LEAD TO, BY NUMBERS -/
theorem fl8_low : ∀ (B : Ar), (∀ x, x ∈ fl [] B → x < 8) → (fl [8] B).filter (fun x => decide (x < 8)) = fl [] B ∧ ((fl [8] B).filter fun x => x == 8).length = B.length
  | [], _ => by simp [fl]
  | x :: B, h => by
    rw [fl_cons] at h
    obtain ⟨h1, h2⟩ := fl8_low B (fun y hy => h y (List.mem_append_right _ hy))
    have hx : ∀ y, y ∈ x → y < 8 := fun y hy => h y (List.mem_append_left _ (by simpa using hy))
    have e1 : x.filter (fun y => decide (y < 8)) = x := by rw [List.filter_eq_self]; intro a ha; simpa using hx a ha
    have e2 : x.filter (fun y => y == 8) = [] := by rw [List.filter_eq_nil_iff]; intro a ha; have := hx a ha; simp; omega
    rw [fl_cons, fl_cons]
    constructor
    · rw [List.filter_append, List.filter_append, h1, e1]; simp
    · rw [List.filter_append, List.filter_append, List.length_append, List.length_append, h2, e2, List.length_cons]; simp; omega
theorem up_A (A : Ar) (x : List Nat) (B : Ar) : up (A ++ x :: B) A.length = fl [] A ++ x := by
  unfold up
  rw [show A.length + 1 = (A ++ [x]).length by simp, show A ++ x :: B = (A ++ [x]) ++ B by simp, List.take_left, fl_app, fl_cons]
  simp [fl]
theorem mv_lt8 {L : Ar} {f m t : Nat} (h : f < t) (ht : t < L.length) (hm : m ≤ (rl L f).length) (h8 : ∀ x, x ∈ fl [] L → x < 8) :
    ∃ P Q S, dgs L = P ++ (sg L f m ++ (Q ++ S)) ∧ dgs (mv L f m t) = P ++ (Q ++ (sg L f m ++ S)) ∧ (Q.filter fun x => x == 8).length = t - f ∧ up L t = up L f ++ Q.filter (fun x => decide (x < 8)) := by
  obtain ⟨A, x, B, y, C, rfl, rfl, hB⟩ := split2 h ht
  have e1 : rl (A ++ x :: (B ++ y :: C)) A.length = x := by rw [rl_app0, rl_zero]
  have e2 : rl (A ++ x :: (B ++ y :: C)) t = y := by
    rw [show t = A.length + (B.length + 1) by omega, rl_app, rl_succ, rl_app0, rl_zero]
  have e3 : mv (A ++ x :: (B ++ y :: C)) A.length m t = A ++ x.take (x.length - m) :: (B ++ (y ++ x.drop (x.length - m)) :: C) := by
    rw [mv, sg, e1, e2, show t = A.length + (B.length + 1) by omega]
    simp
  rw [e1] at hm
  have h8B : ∀ z, z ∈ fl [] B → z < 8 := fun z hz => h8 z (by rw [fl_app, fl_cons, fl_app]; simp [hz])
  have h8y : ∀ z, z ∈ y → z < 8 := fun z hz => h8 z (by rw [fl_app, fl_cons, fl_app, fl_cons]; simp [hz])
  obtain ⟨q1, q2⟩ := fl8_low B h8B
  have y1 : y.filter (fun z => decide (z < 8)) = y := by rw [List.filter_eq_self]; intro a ha; simpa using h8y a ha
  have y2 : y.filter (fun z => z == 8) = [] := by rw [List.filter_eq_nil_iff]; intro a ha; have := h8y a ha; simp; omega
  have hP : 1 ≤ (fl [8] A ++ ([8] ++ x.take (x.length - m))).length := by simp; omega
  refine ⟨(fl [8] A ++ ([8] ++ x.take (x.length - m))).drop 1, fl [8] B ++ ([8] ++ y), fl [8] C, ?_, ?_, ?_, ?_⟩
  · rw [dgs, ← List.drop_append_of_le_length hP, sg, e1, fl_app, fl_cons, fl_app, fl_cons]
    congr 1
    conv => lhs; rw [← List.take_append_drop (x.length - m) x]
    simp only [List.append_assoc]
  · rw [dgs, ← List.drop_append_of_le_length hP, e3, sg, e1, fl_app, fl_cons, fl_app, fl_cons]
    congr 1
    simp only [List.append_assoc]
  · rw [List.filter_append, List.filter_append, List.length_append, List.length_append, q2, y2]; simp; omega
  · rw [up_A, show t = (A ++ x :: B).length by simp; omega, show A ++ x :: (B ++ y :: C) = (A ++ x :: B) ++ y :: C by simp, up_A, fl_app, fl_cons, List.filter_append, List.filter_append, q1, y1]
    simp
theorem mv_gt8 {L : Ar} {f m t : Nat} (h : t < f) (hf : f < L.length) (hm : m ≤ (rl L f).length) (h8 : ∀ x, x ∈ fl [] L → x < 8) :
    ∃ P Q S, dgs L = P ++ (Q ++ (sg L f m ++ S)) ∧ dgs (mv L f m t) = P ++ (sg L f m ++ (Q ++ S)) ∧ (Q.filter fun x => x == 8).length = f - t ∧ up L f = up L t ++ (Q.filter (fun x => decide (x < 8)) ++ sg L f m) := by
  obtain ⟨A, y, B, x, C, rfl, rfl, hB⟩ := split2 h hf
  have e1 : rl (A ++ y :: (B ++ x :: C)) A.length = y := by rw [rl_app0, rl_zero]
  have e2 : rl (A ++ y :: (B ++ x :: C)) f = x := by
    rw [show f = A.length + (B.length + 1) by omega, rl_app, rl_succ, rl_app0, rl_zero]
  have e3 : mv (A ++ y :: (B ++ x :: C)) f m A.length = A ++ (y ++ x.drop (x.length - m)) :: (B ++ x.take (x.length - m) :: C) := by
    rw [mv, sg, e1, e2, show f = A.length + (B.length + 1) by omega]
    simp
  rw [e2] at hm
  have h8B : ∀ z, z ∈ fl [] B → z < 8 := fun z hz => h8 z (by rw [fl_app, fl_cons, fl_app]; simp [hz])
  have h8x : ∀ z, z ∈ x → z < 8 := fun z hz => h8 z (by rw [fl_app, fl_cons, fl_app, fl_cons]; simp [hz])
  obtain ⟨q1, q2⟩ := fl8_low B h8B
  have y1 : (x.take (x.length - m)).filter (fun z => decide (z < 8)) = x.take (x.length - m) := by rw [List.filter_eq_self]; intro a ha; simpa using h8x a (List.mem_of_mem_take ha)
  have y2 : (x.take (x.length - m)).filter (fun z => z == 8) = [] := by rw [List.filter_eq_nil_iff]; intro a ha; have := h8x a (List.mem_of_mem_take ha); simp; omega
  have hP : 1 ≤ (fl [8] A ++ ([8] ++ y)).length := by simp; omega
  refine ⟨(fl [8] A ++ ([8] ++ y)).drop 1, fl [8] B ++ ([8] ++ x.take (x.length - m)), fl [8] C, ?_, ?_, ?_, ?_⟩
  · rw [dgs, ← List.drop_append_of_le_length hP, sg, e2, fl_app, fl_cons, fl_app, fl_cons]
    congr 1
    conv => lhs; rw [← List.take_append_drop (x.length - m) x]
    simp only [List.append_assoc]
  · rw [dgs, ← List.drop_append_of_le_length hP, e3, sg, e2, fl_app, fl_cons, fl_app, fl_cons]
    congr 1
    simp only [List.append_assoc]
  · rw [List.filter_append, List.filter_append, List.length_append, List.length_append, q2, y2]; simp; omega
  · rw [up_A, show f = (A ++ y :: B).length by simp; omega, sg, show rl (A ++ y :: (B ++ x :: C)) (A ++ y :: B).length = x by rw [show (A ++ y :: B).length = f by simp; omega]; exact e2, show A ++ y :: (B ++ x :: C) = (A ++ y :: B) ++ x :: C by simp, up_A, fl_app, fl_cons, List.filter_append, List.filter_append, q1, y1]
    have : ([8] : List Nat).filter (fun z => decide (z < 8)) = [] := rfl
    rw [this]
    simp
theorem bit32 {i : Nat} (h : i < 32) : (4294967295 : Nat).testBit i = true := by
  have : ∀ i, i < 32 → (4294967295 : Nat).testBit i = true := by decide +kernel
  exact this i h
/-- the set of those that a pull goes past -/
theorem paN_eq {U V s Q : List Nat} (h8 : ∀ x, x ∈ U ++ V → x < 8) (hs : ∀ x, x ∈ s → x < 8) (hQ : ∀ x, (x ∈ U ∧ ¬ x ∈ V ∨ ¬ x ∈ U ∧ x ∈ V) ∧ ¬ x ∈ s ↔ x ∈ Q) : (ss U ^^^ ss V) &&& (ss s ^^^ 4294967295) = ss Q := by
  apply Nat.eq_of_testBit_eq
  intro i
  rw [Nat.testBit_and, Nat.testBit_xor, Nat.testBit_xor, ss_bit, ss_bit, ss_bit, ss_bit]
  have hq := hQ i
  by_cases c : i < 32
  · rw [bit32 c]
    by_cases a : i ∈ U <;> by_cases b : i ∈ V <;> by_cases d : i ∈ s <;> by_cases e : i ∈ Q <;> simp_all
  · have a : i ∉ U := fun h => by have := h8 i (List.mem_append_left _ h); omega
    have b : i ∉ V := fun h => by have := h8 i (List.mem_append_right _ h); omega
    have e : i ∉ Q := fun h => by have := hq.mpr h; simp_all
    simp [a, b, e]
theorem up_sub {L : Ar} {r x : Nat} (h : x ∈ up L r) : x ∈ fl [] L := by
  unfold up fl at *
  rw [List.mem_flatMap] at *
  obtain ⟨l, h1, h2⟩ := h
  exact ⟨l, List.mem_of_mem_take h1, h2⟩
theorem up_nd {R H : Nat} {L : Ar} (wL : WA R H L) (r : Nat) : (up L r).Nodup := by
  have h1 : (fl [] L).Nodup := wL.2.nodup_iff.mpr List.nodup_range
  have e : fl [] L = up L r ++ fl [] (L.drop (r + 1)) := by unfold up; rw [← fl_app, List.take_append_drop]
  rw [e, List.nodup_append] at h1
  exact h1.1
/-- what the tables say of a pull -/
def dlt (R H : Nat) (L : Ar) (a : Tr) : Int := ((a.2.2 : Int) - a.1) * ((sm (ways R) (cl H (ss (sg L a.1 a.2.1))) : Nat) : Int) + (if a.1 < a.2.2 then tvL (ways R) (cl H (ss (sg L a.1 a.2.1))) (cl H (paN L a.1 a.2.1 a.2.2)) else - tvL (ways R) (cl H (ss (sg L a.1 a.2.1))) (cl H (paN L a.1 a.2.1 a.2.2)))
theorem nm_mv {R H : Nat} {L : Ar} (wL : WA R H L) (hH : H ≤ 8) {a : Tr} (h1 : a.1 < R) (h2 : a.2.2 < R) (h3 : a.1 ≠ a.2.2) (h4 : a.2.1 ≤ (rl L a.1).length) :
    paN L a.1 a.2.1 a.2.2 < 2 ^ H ∧ ((nm R H (mvA L a) : Nat) : Int) = (nm R H L : Nat) + dlt R H L a := by
  obtain ⟨f, m, t⟩ := a
  dsimp only at h1 h2 h3 h4
  have h8 : ∀ x, x ∈ fl [] L → x < 8 := fun x hx => by have := wL.lt.mp hx; omega
  have hu8 : ∀ r x, x ∈ up L r → x < 8 := fun r x hx => h8 x (up_sub hx)
  have hs8 : ∀ x, x ∈ sg L f m → x < 8 := fun x hx => h8 x (rl_sub (List.mem_of_mem_drop hx))
  have hsH : ∀ x, x ∈ sg L f m → x < H := fun x hx => wL.lt.mp (rl_sub (List.mem_of_mem_drop hx))
  have hRH : 0 < H → 0 < R := fun _ => by omega
  have hmv := wL.mvd h3 h1 h2 h4
  have hsp := cl_perm (wL.sgnd (m := m) h1) hsH
  have hl1 : f < L.length := by rw [wL.1]; exact h1
  have hl2 : t < L.length := by rw [wL.1]; exact h2
  have n1 := up_nd wL t
  have n2 := up_nd wL f
  unfold dlt mvA nm
  dsimp only
  rcases Nat.lt_or_gt_of_ne h3 with h | h
  · obtain ⟨P, Q, S, g1, g2, g3, g4⟩ := mv_lt8 h hl2 h4 h8
    have hsf : ∀ x, x ∈ sg L f m → x ∈ up L f := fun x hx => by
      rw [up_step hl1]; exact List.mem_append_right _ (List.mem_of_mem_drop hx)
    have hQt : ∀ x, x ∈ Q.filter (fun x => decide (x < 8)) → x ∈ up L t := fun x hx => by rw [g4]; exact List.mem_append_right _ hx
    have hQH : ∀ x, x ∈ Q.filter (fun x => decide (x < 8)) → x < H := fun x hx => wL.lt.mp (up_sub (hQt x hx))
    have n1' := n1
    rw [g4, List.nodup_append] at n1'
    have hpa : paN L f m t = ss (Q.filter fun x => decide (x < 8)) := by
      refine paN_eq (fun x hx => (List.mem_append.mp hx).elim (hu8 f x) (hu8 t x)) hs8 (fun x => ⟨fun q => ?_, fun q => ?_⟩)
      · obtain ⟨q1 | q1, q2⟩ := q
        · exact absurd (by rw [g4]; exact List.mem_append_left _ q1.1) q1.2
        · have := q1.2
          rw [g4, List.mem_append] at this
          exact this.resolve_left q1.1
      · have hn : x ∉ up L f := fun z => n1'.2.2 x z x q rfl
        exact ⟨Or.inr ⟨hn, hQt x q⟩, fun z => hn (hsf x z)⟩
    have w := dgs_DW wL hRH
    rw [g1] at w
    have hnm := nm_swap hH w hsH
    rw [← g1, ← g2, g3] at hnm
    have hqp := cl_perm n1'.2.1 hQH
    rw [hpa]
    refine ⟨ss_lt hQH, ?_⟩
    rw [if_pos h, sm_perm _ hsp, tvL_perm _ hsp hqp, hnm, Int.natCast_mul, show ((t - f : Nat) : Int) = (t : Int) - f by omega]
    omega
  · obtain ⟨P, Q, S, g1, g2, g3, g4⟩ := mv_gt8 h hl1 h4 h8
    have hQt : ∀ x, x ∈ Q.filter (fun x => decide (x < 8)) → x ∈ up L f := fun x hx => by rw [g4]; exact List.mem_append_right _ (List.mem_append_left _ hx)
    have hQH : ∀ x, x ∈ Q.filter (fun x => decide (x < 8)) → x < H := fun x hx => wL.lt.mp (up_sub (hQt x hx))
    have n2' := n2
    rw [g4, List.nodup_append, List.nodup_append] at n2'
    have hpa : paN L f m t = ss (Q.filter fun x => decide (x < 8)) := by
      refine paN_eq (fun x hx => (List.mem_append.mp hx).elim (hu8 f x) (hu8 t x)) hs8 (fun x => ⟨fun q => ?_, fun q => ?_⟩)
      · obtain ⟨q1 | q1, q2⟩ := q
        · have := q1.1
          rw [g4, List.mem_append, List.mem_append] at this
          exact (this.resolve_left q1.2).resolve_right q2
        · exact absurd (by rw [g4]; exact List.mem_append_left _ q1.2) q1.1
      · exact ⟨Or.inl ⟨hQt x q, fun z => n2'.2.2 x z x (List.mem_append_left _ q) rfl⟩, fun z => n2'.2.1.2.2 x q x z rfl⟩
    have w := dgs_DW hmv hRH
    rw [g2] at w
    have hnm := nm_swap hH w hsH
    rw [← g1, ← g2, g3] at hnm
    have hqp := cl_perm n2'.2.1.1 hQH
    rw [hpa]
    refine ⟨ss_lt hQH, ?_⟩
    rw [if_neg (by omega), sm_perm _ hsp, tvL_perm _ hsp hqp]
    rw [Int.natCast_mul, show ((f - t : Nat) : Int) = -((t : Int) - f) by omega, Int.neg_mul] at hnm
    omega
def LPn (M : rhM) (s R H : Nat) (L : Ar) (acc : List Tr) : Prop := ∀ i a, acc[i]? = some a → M.1 (xb s + 2) i = J (nm R H (mvA L a) : Nat)
section
variable {Γ : rhG} {n s R H : Nat} {L : Ar} {acc : List Tr}
theorem c_follow2 (hR : R ≤ 5) (hH : H ≤ 6) (wL : WA R H L) (k0 : Γ.2.2.1 n = 11) (k2 : Γ.2.2.1 (n + 2) = 15) (n2 : Γ.2.2.2 (n + 2) = 64) (k3 : Γ.2.2.1 (n + 3) = 15) (n3 : Γ.2.2.2 (n + 3) = 4096) {M0 : rhM} (hs : SS Γ M0 s) (r3 : M0.2.2 n 3 = n + 2) (r4 : M0.2.2 n 4 = n + 3) (hns : n + 3 < s ∨ xb s + 2 < n) (h32 : acc.length ≤ 32) (hacc : ∀ a, a ∈ acc → a.1 < R ∧ a.2.2 < R ∧ a.1 ≠ a.2.2 ∧ a.2.1 ≤ (rl L a.1).length) : ∀ (d f : Nat) (M : rhM) (i : Nat), M.2.2 = M0.2.2 → NTs M n R H H → NTr M n R H H → LPu M s L acc → i + d = acc.length → d < f →
    wp (f_X10_follow_2 Γ f M n (J (nm R H L : Nat)) s (J i)) (fun M' => Fr [xb s + 2] M M' ∧ (∀ k a, i ≤ k → acc[k]? = some a → M'.1 (xb s + 2) k = J (nm R H (mvA L a) : Nat)) ∧ ∀ k, k < i → M'.1 (xb s + 2) k = M.1 (xb s + 2) k) := by
  have hx := xb_gt s
  obtain ⟨s0, -, -, -, -, -, ⟨k6, n6⟩, -, -, -, -, -, f8, ⟨x7, y7⟩, ⟨x8, y8⟩, ⟨x9, y9⟩, f9, f10, f11⟩ := hs
  intro d
  induction d with
  | zero =>
    intro f M i hM hS hT hL hi hf
    obtain ⟨f, rfl⟩ : ∃ k, f = k + 1 := ⟨f - 1, by omega⟩
    rw [f_X10_follow_2, wp_ck_t s0, hL.1, wp_ite_f (by rw [J_lt (by omega) (by omega) (by omega) (by omega)]; omega), wp_some]
    refine ⟨Fr.refl _ _, fun k a h1 h2 => ?_, fun _ _ => rfl⟩
    have := (List.getElem?_eq_some_iff.mp h2).1
    omega
  | succ d ih =>
    intro f M i hM hS hT hL hi hf
    obtain ⟨f, rfl⟩ : ∃ k, f = k + 1 := ⟨f - 1, by omega⟩
    obtain ⟨a, ha⟩ : ∃ a, acc[i]? = some a := ⟨_, List.getElem?_eq_getElem (show i < acc.length by omega)⟩
    obtain ⟨a1, a2, a3, a4⟩ := hacc a (List.mem_of_getElem? ha)
    obtain ⟨q1, q2⟩ := nm_mv wL (show H ≤ 8 by omega) a1 a2 a3 a4
    obtain ⟨l1, l2, l3, l4⟩ := hL.2 i a ha
    have hsg : ss (sg L a.1 a.2.1) < 2 ^ H := ss_lt (fun x hx => wL.lt.mp (rl_sub (List.mem_of_mem_drop hx)))
    have hp : 2 ^ H ≤ 2 ^ 6 := pow_le hH
    have hp : 2 ^ H ≤ 64 := hp
    have t1 := hS _ hsg
    have t2 := hT _ _ hsg q1
    unfold dlt at q2
    generalize hq : 2 ^ H = q at *
    generalize hSS : ss (sg L a.1 a.2.1) = S at *
    generalize hPP : paN L a.1 a.2.1 a.2.2 = X at *
    generalize hsm : sm (ways R) (cl H S) = u at *
    generalize htv : tvL (ways R) (cl H S) (cl H X) = v at *
    have fin : ∀ z : Int, ((nm R H (mvA L a) : Nat) : Int) = (nm R H L : Nat) + ((a.2.2 : Int) - a.1) * u + z → wp (f_X10_follow_75 (f_X10_follow_2 Γ f) Γ M n (J (nm R H L : Nat)) s (J i) (xb s + 2) (J i) (J ((nm R H L : Nat) + ((a.2.2 : Int) - a.1) * u)) (J z)) (fun M' => Fr [xb s + 2] M M' ∧ (∀ k a, i ≤ k → acc[k]? = some a → M'.1 (xb s + 2) k = J (nm R H (mvA L a) : Nat)) ∧ ∀ k, k < i → M'.1 (xb s + 2) k = M.1 (xb s + 2) k) := by
      intro z hz
      rw [f_X10_follow_75, wp_ck_t x9, y9, J_toInt (by omega) (by omega), wp_ck_t (by omega), J_clamp (by omega) (by omega), Int.toNat_natCast, J_add, ← hz]
      dsimp only
      have hF : Fr [xb s + 2] M (rhsi M (xb s + 2) i (J (nm R H (mvA L a) : Nat))) := (Fr.refl _ _).si (by simp) _ _
      have v1 : (rhsi M (xb s + 2) i (J (nm R H (mvA L a) : Nat))).1 (xb s + 2) i = J (nm R H (mvA L a) : Nat) := by rw [si_1, if_pos ⟨rfl, rfl⟩]
      have v2 : ∀ k, k ≠ i → (rhsi M (xb s + 2) i (J (nm R H (mvA L a) : Nat))).1 (xb s + 2) k = M.1 (xb s + 2) k := fun k hk => by rw [si_1, if_neg (by omega)]
      generalize rhsi M (xb s + 2) i (J (nm R H (mvA L a) : Nat)) = M1 at hF v1 v2 ⊢
      rw [show (1 : Int32) = J 1 from rfl, J_add, J_suc]
      refine (ih f M1 (i + 1) (by rw [hF.1]; exact hM) (fun S' hS' => by rw [hF.i (by simp; omega)]; exact hS S' hS') (fun S' X' b1 b2 => by rw [hF.i (by simp; omega)]; exact hT S' X' b1 b2) (hL.fr hF (by simp; omega) (by simp; omega) (by simp; omega) (by simp) (by simp)) (by omega) (by omega)).mono (fun M' h => ⟨hF.trans h.1, fun k b h1 h2 => ?_, fun k hk => ?_⟩)
      · by_cases e : k = i
        · subst e
          rw [h.2.2 k (by omega), v1]
          rw [ha] at h2; cases h2; rfl
        · exact h.2.1 k b (by omega) h2
      · rw [h.2.2 k (by omega), v2 k (by omega)]
    rw [f_X10_follow_2, wp_ck_t s0, hL.1, wp_ite_t (by rw [J_lt (by omega) (by omega) (by omega) (by omega)]; omega), hM, f8, wp_ck_t k6, n6, J_toInt (by omega) (by omega), wp_ck_t (by omega), J_clamp (by omega) (by omega), Int.toNat_natCast, f10, wp_ck_t x8, y8, wp_ck_t (by omega), wp_ck_t k0, f9, wp_ck_t x7, y7, wp_ck_t (by omega), r4, wp_ck_t k3, n3, l2, l3, l4, r3]
    dsimp only
    rw [show (64 : Int32) = J 64 from rfl, J_mul, J_add, show ((S : Nat) : Int) * 64 + ((X : Nat) : Int) = ((S * 64 + X : Nat) : Int) by omega, J_toInt (by omega) (by omega), wp_ck_t (by omega), wp_ck_t k2, n2, J_toInt (by omega) (by omega), wp_ck_t (by omega), f11, J_clamp (by omega) (by omega), J_clamp (by omega) (by omega), Int.toNat_natCast, Int.toNat_natCast, t1, t2, J_mul, J_add, show (0 : Int32) = J 0 from rfl]
    by_cases c : a.1 < a.2.2
    · rw [if_pos c] at q2
      rw [wp_ite_t (by rw [J_lt (by omega) (by omega) (by omega) (by omega)]; omega)]
      exact fin v (by omega)
    · rw [if_neg c] at q2
      rw [wp_ite_f (by rw [J_lt (by omega) (by omega) (by omega) (by omega)]; omega), J_neg]
      exact fin (-v) (by omega)
theorem c_follow {M : rhM} (hR : R ≤ 5) (hH : H ≤ 6) (wL : WA R H L) (hn : NSh Γ M n) (hN : NT M n R H) (hs : SS Γ M s) (hns : n + 3 < s ∨ xb s + 2 < n) (h32 : acc.length ≤ 32) (hacc : ∀ a, a ∈ acc → a.1 < R ∧ a.2.2 < R ∧ a.1 ≠ a.2.2 ∧ a.2.1 ≤ (rl L a.1).length) (hL : LPu M s L acc) :
    wp (f_X10_follow Γ M n (J (nm R H L : Nat)) s) (fun M' => Fr [xb s + 2] M M' ∧ LPn M' s R H L acc) := by
  obtain ⟨k0, -, ⟨k2, n2⟩, ⟨k3, n3⟩, -, r3, r4⟩ := hn
  rw [f_X10_follow]
  have := c_follow2 hR hH wL k0 k2 n2 k3 n3 hs r3 r4 hns h32 hacc acc.length rhFU M 0 rfl hN.2.2.2.1 hN.2.2.2.2.1 hL (by omega) (by have := FU_big; omega)
  exact this.mono (fun M' h => ⟨h.1, fun i a ha => h.2.1 i a (Nat.zero_le _) ha⟩)
end
