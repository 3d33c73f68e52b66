section
variable {Γ : rhG} {M M' : rhM} {T : Tn} {bs : List Int32} {B : Bd} {b o0 : Nat}
theorem qk_end {i : Nat} (h : bs.length ≤ i) (hi : i ≤ bs.length) : qk bs i = 0 := by
  apply Classical.byContradiction
  intro c
  have := qn_gt hi c
  omega
theorem y_lines (hG : GK Γ) {K : rhM → Nat → Option (Int32 × rhM)} {Q : Int32 × rhM → Prop} : ∀ (m n : Nat) (M : rhM) (s : Ps) (B : Bd), (s.2.1 = 0 → bs.length - s.1 ≤ m) → m < n → RE Γ M b → QS M bs s → okp bs s → (s.2.1 = 0 → RKB M b B ∧ PW B) → (∀ M', FQr b bs M (lLines bs m (s, B)) M' → wp (K M' 102) Q) → wp (f_X12_town_74 K Γ n M 102) Q := by
  intro m
  induction m with
  | zero =>
    intro n M s B hm hn hE hQ ho hK hk
    obtain ⟨n, rfl⟩ : ∃ k, n = k + 1 := ⟨n - 1, by omega⟩
    have k0 := hk M ⟨YB.refl _ _, hQ, fun g => (hK g).1⟩
    rw [f_X12_town_74, wp_ck_t (GKk102 hG), wp_bind, y_good hG hQ, wp_some]
    by_cases g : s.2.1 = 0
    · have h1 := hm g
      have h2 := ho.1
      obtain ⟨i, t1, t2, t3⟩ := id hQ.1
      have ei := t3 g
      rw [ei] at t1 t2
      have hl : bs.length ≤ s.1 := by omega
      rw [if_pos g, wp_ite_f (by decide), t1.2.2.2.1, qk_end hl t2, wp_ite_t (show J ((0 : Nat) : Int) = 0 from rfl)]
      exact k0
    · rw [if_neg g, wp_ite_t rfl]
      exact k0
  | succ m ih =>
    intro n M s B hm hn hE hQ ho hK hk
    obtain ⟨n, rfl⟩ : ∃ k, n = k + 1 := ⟨n - 1, by omega⟩
    rw [f_X12_town_74, wp_ck_t (GKk102 hG), wp_bind, y_good hG hQ, wp_some]
    by_cases g : s.2.1 = 0
    · have h1 := hm g
      obtain ⟨hKB, hP⟩ := hK g
      obtain ⟨i, t1, t2, t3⟩ := id hQ.1
      have ei := t3 g
      rw [ei] at t1 t2
      have hk5 : qk bs s.1 ≤ 5 := by unfold qk; (repeat' split) <;> omega
      rw [if_pos g, wp_ite_f (by decide), t1.2.2.2.1]
      by_cases c0 : qk bs s.1 = 0
      · have e : lLines bs (m + 1) (s, B) = (s, B) := by rw [lLines, if_neg (fun q => q.2 c0)]
        rw [e] at hk
        rw [c0, wp_ite_t (show J ((0 : Nat) : Int) = 0 from rfl)]
        exact hk M ⟨YB.refl _ _, hQ, fun _ => hKB⟩
      · have e : lLines bs (m + 1) (s, B) = lLines bs m (lLine bs (s, B)) := by rw [lLines, if_pos ⟨g, c0⟩]
        rw [e] at hk
        rw [wp_ite_f (by rw [show (0 : Int32) = J 0 from rfl, J_eq (by omega) (by omega) (by omega) (by omega)]; omega), wp_bind]
        refine (y_readLine hE hQ g t2 hKB hP).mono (fun M1 z => ?_)
        have zz := id z
        obtain ⟨z1, z2, z3⟩ := z
        have ol := ok_line (bs := bs) (s := s) (B := B) ho
        have on := line_on (bs := bs) (s := s) (B := B) t2 ho.2 c0
        have pl := pw_line (bs := bs) (s := s) (B := B) hP
        generalize lLine bs (s, B) = y at *
        refine ih n M1 y.1 y.2 (fun g2 => by have := (on g2).1; omega) (by omega) (hE.yb z1) z2 ol (fun g2 => ⟨z3 g2, pl g2⟩) (fun M' q => hk M' (q.of z1))
    · rw [lLines_bad g] at hk
      rw [if_neg g, wp_ite_t rfl]
      exact hk M ⟨YB.refl _ _, hQ, fun q => absurd q g⟩
theorem TM_of {lb : Int} (hK : RKB M b B) (hP : PW B) (hb : b ≤ 1) (h34 : M.1 102 34 = J b) (h44 : M.1 102 44 = J (-1)) (h45 : M.1 102 45 = J lb) (hl : 0 ≤ lb ∧ lb ≤ 99) : TM M b (bT B) (-1) lb := by
  obtain ⟨⟨k0, k1, k2, k3, k4⟩, ⟨kn1, kn2⟩, kl, ks, kw, kc, kf, k111⟩ := hK
  have h8 := hP.1.2.1
  have e119 : M.1 119 b = J (if tC (bT B) = [] then 0 else 1) := by
    rw [kf.2.2]
    show _ = J (if (bC B).1 = [] then 0 else 1)
    unfold bC
    cases e : bL B with
    | none => rfl
    | some v =>
      have := (hP.2.2.2.2.2 v e).1
      have hne : v.1 ≠ [] := fun q => by rw [q] at this; cases this
      show (1 : Int32) = J (if v.1 = [] then 0 else 1)
      rw [if_neg hne]; rfl
  refine ⟨hb, h34, k0, k1, k3, k4, kc.2.1, e119, ?_, h44, h45, by omega, by omega, hl.1, hl.2, fun r hr => ?_, fun h hh => (ks h hh).1, fun h hh => (ks h hh).2.1, fun h hh => (ks h hh).2.2, fun h k hh hk => (kw h k (Nat.lt_of_lt_of_le hh h8) (Nat.lt_of_lt_of_le hk h8)).1, kc.2.2.1, kc.2.2.2⟩
  · rw [k111]; rfl
  · rw [kl r hr, if_neg (by omega)]
    show _ = J ((bLen B r : Int) - 0)
    rw [Int.sub_zero]
theorem TM_old {lb : Int} (ho : b = 1 - o0) (hT : TM M o0 T (-1) lb) (hw : TWf T) (e34 : M'.1 102 34 = M.1 102 34) (e44 : M'.1 102 44 = M.1 102 44) (e45 : M'.1 102 45 = M.1 102 45) (hO : ∀ c i, bnk c ≠ 0 → i / bnk c = 1 - b → M'.1 c i = M.1 c i) : TM M' o0 T (-1) lb := by
  obtain ⟨hb, f34, f105, f106, f109, f110, f108, f119, f111, f44, f45, g1, g2, l1, l2, f112, f113, f114, f115, f116, f123, f124⟩ := hT
  have h5 := hw.1
  have h8 := hw.2.1
  have hc4 : (tC T).length ≤ 400 := hw.2.2.2.2.2.2.2.2.2.1
  have e1 : ∀ c, bnk c = 1 → M'.1 c o0 = M.1 c o0 := fun c hc => hO c o0 (by omega) (by rw [hc, Nat.div_one]; omega)
  refine ⟨hb, by rw [e34]; exact f34, by rw [e1 105 rfl]; exact f105, by rw [e1 106 rfl]; exact f106, by rw [e1 109 rfl]; exact f109, by rw [e1 110 rfl]; exact f110, by rw [e1 108 rfl]; exact f108, by rw [e1 119 rfl]; exact f119, by rw [e1 111 rfl]; exact f111, by rw [e44]; exact f44, by rw [e45]; exact f45, g1, g2, l1, l2, fun r hr => ?_, fun h hh => ?_, fun h hh => ?_, fun h hh => ?_, fun h k hh hk => ?_, ?_, ?_⟩
  · rw [hO 112 _ (by decide) (by show (5 * o0 + r) / 5 = 1 - b; omega)]; exact f112 r hr
  · rw [hO 113 _ (by decide) (by show (8 * o0 + h) / 8 = 1 - b; omega)]; exact f113 h hh
  · rw [hO 114 _ (by decide) (by show (8 * o0 + h) / 8 = 1 - b; omega)]; exact f114 h hh
  · rw [hO 115 _ (by decide) (by show (8 * o0 + h) / 8 = 1 - b; omega)]; exact f115 h hh
  · rw [hO 116 _ (by decide) (by show (64 * o0 + 8 * h + k) / 64 = 1 - b; omega)]; exact f116 h k hh hk
  · refine Sg_cong _ _ (fun i h1 h2 => ?_) f123
    rw [List.length_map] at h2
    exact hO 123 i (by decide) (by show i / 500 = 1 - b; omega)
  · refine Sg_cong _ _ (fun i h1 h2 => ?_) f124
    rw [List.length_map] at h2
    exact hO 124 i (by decide) (by show i / 500 = 1 - b; omega)
theorem KP_yb (h : YB b M M') : KP [0, 1, 2, 3] M M' := by
  refine KP.frM h.1 (by decide) (fun k hk => ?_) (by decide)
  have n : ∀ j, idc 102 j ∈ [0, 1, 2, 3] → k ≠ j := fun j hj e => hk (by rw [e]; exact hj)
  have n4 := n 4 (by decide)
  have n5 := n 5 (by decide)
  have n6 := n 6 (by decide)
  have n7 := n 7 (by decide)
  have n8 := n 8 (by decide)
  have n9 := n 9 (by decide)
  exact h.2.1 k (by omega) (n 36 (by decide)) (n 37 (by decide)) (n 38 (by decide))
theorem KR_yb (h : YB b M M') : KR M M' := KR.fr h.1 (by decide)
theorem y_boxes (hG : GK Γ) {v : Int32} : ∀ (d n : Nat) (M : rhM) (k : Nat), MR M → b ≤ 1 → M.1 102 34 = J b → M.1 106 b = v → k + d = 3 → d < n → (∀ j, j < k → M.1 159 j = J (-1)) → wp (f_X12_town_138 Γ n M 102 (J k)) (fun y => y.1 = v ∧ Fr [159] M y.2 ∧ ∀ j, j < 3 → y.2.1 159 j = J (-1)) := by
  intro d
  induction d with
  | zero =>
    intro n M k hR hb h34 h106 hk hn hz
    obtain ⟨n, rfl⟩ : ∃ k, n = k + 1 := ⟨n - 1, by omega⟩
    rw [f_X12_town_138, wp_ite_f (by rw [show (3 : Int32) = J 3 from rfl, J_lt (by omega) (by omega) (by omega) (by omega)]; omega), wp_ck_t (GKk102 hG), MRf12 hR, wp_ck_t (GKk106 hG), h34, wp_ck_t (by rw [J_toInt (by omega) (by omega), GKl106 hG]; omega), J_clamp (by omega) (by omega), Int.toNat_natCast, h106, wp_some]
    exact ⟨rfl, Fr.refl _ _, fun j hj => hz j (by omega)⟩
  | succ d ih =>
    intro n M k hR hb h34 h106 hk hn hz
    obtain ⟨n, rfl⟩ : ∃ k, n = k + 1 := ⟨n - 1, by omega⟩
    rw [f_X12_town_138, wp_ite_t (by rw [show (3 : Int32) = J 3 from rfl, J_lt (by omega) (by omega) (by omega) (by omega)]; omega), wp_ck_t (GKk102 hG), MRf84 hR, wp_ck_t (GKk159 hG), wp_ck_t (by rw [J_toInt (by omega) (by omega), GKl159 hG]; omega), J_clamp (by omega) (by omega), Int.toNat_natCast]
    show wp (f_X12_town_138 Γ n (rhsi M 159 k (-1)) 102 (J k + 1)) _
    rw [show J k + 1 = J ((k + 1 : Nat) : Int) by rw [show (1 : Int32) = J 1 from rfl, J_add, J_suc]]
    have F : Fr [159] M (rhsi M 159 k (-1)) := (Fr.refl _ _).si (by simp) _ _
    refine (ih n (rhsi M 159 k (-1)) (k + 1) hR hb (by rw [si_1, if_neg (by omega)]; exact h34) (by rw [si_1, if_neg (by omega)]; exact h106) (by omega) (by omega) (fun j hj => ?_)).mono (fun M' z => ⟨z.1, F.trans z.2.1, z.2.2⟩)
    rw [si_1]
    by_cases c : j = k
    · rw [if_pos ⟨rfl, c⟩]; rfl
    · rw [if_neg (fun q => c q.2)]; exact hz j (by omega)
end
