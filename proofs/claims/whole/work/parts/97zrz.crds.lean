/-! THE CLASS'S READER: reads -/
theorem c_fillJ {Γ : rhG} {r N : Nat} (k : Γ.2.2.1 r = 15) (hn : Γ.2.2.2 r = N) (hN : N ≤ 1000) (v : Int32) (M : rhM) : wp (f_J7_fill_53178 Γ M r v) (fun M' => Fr [r] M M' ∧ ∀ i, i < N → M'.1 r i = v) := by
  rw [f_J7_fill_53178, wp_ck_t k]
  show wp (f_J7_fill_53178_5 Γ rhFU M r v (J (0 : Nat)) (Int32.ofNat (Γ.2.2.2 r))) _
  rw [hn, show Int32.ofNat N = J N from (Int32.ofInt_eq_ofNat (n := N)).symm]
  have lp : ∀ (d n : Nat) (M1 : rhM) (k0 : Nat), k0 + d = N → d < n → (∀ i, i < k0 → M1.1 r i = v) → wp (f_J7_fill_53178_5 Γ n M1 r v (J k0) (J N)) (fun M' => Fr [r] M1 M' ∧ ∀ i, i < N → M'.1 r i = v) := by
    intro d
    induction d with
    | zero =>
      intro n M1 k0 hk hn' hi
      obtain ⟨n, rfl⟩ : ∃ k, n = k + 1 := ⟨n - 1, by omega⟩
      rw [f_J7_fill_53178_5, wp_ite_f (by rw [J_lt (by omega) (by omega) (by omega) (by omega)]; omega), wp_some]
      exact ⟨Fr.refl _ _, fun i h => hi i (by omega)⟩
    | succ d ih =>
      intro n M1 k0 hk hn' hi
      obtain ⟨n, rfl⟩ : ∃ k, n = k + 1 := ⟨n - 1, by omega⟩
      rw [f_J7_fill_53178_5, wp_ite_t (by rw [J_lt (by omega) (by omega) (by omega) (by omega)]; omega), wp_ck_t k, hn, wp_ck_t (by rw [J_toInt (by omega) (by omega)]; omega), J_clamp (by omega) (by omega), Int.toNat_natCast]
      show wp (f_J7_fill_53178_5 Γ n (rhsi M1 r k0 v) r v (J k0 + 1) (J N)) _
      rw [show (1 : Int32) = J 1 from rfl, J_add, J_suc]
      have hF1 : Fr [r] M1 (rhsi M1 r k0 v) := (Fr.refl _ _).si (by simp) _ _
      refine (ih n (rhsi M1 r k0 v) (k0 + 1) (by omega) (by omega) (fun i h => ?_)).mono (fun M' h => ⟨hF1.trans h.1, h.2⟩)
      rw [si_1]
      by_cases c : i = k0
      · rw [if_pos ⟨rfl, c⟩]
      · rw [if_neg (fun q => c q.2)]; exact hi i (by omega)
  exact lp N rhFU M 0 (by omega) (by have := FU_big; omega) (fun i h => by omega)
section
variable {Γ : rhG} {M : rhM} {t : Nat} {bs : List Int32}
theorem TSh.sr (h : TSh Γ M t) {r j v : Nat} (h1 : t ≠ r) (h2 : t + 6 ≠ r) : TSh Γ (rhsr M r j v) t := by
  unfold TSh
  rw [sr_o M r j v h1, sr_o M r j v h2]; exact h
theorem c_clear_50 (hk4 : Γ.2.2.1 (t + 4) = 15 ∧ Γ.2.2.2 (t + 4) = 64) (hk5 : Γ.2.2.1 (t + 5) = 17 ∧ Γ.2.2.2 (t + 5) = 64) (hk6 : Γ.2.2.1 (t + 6) = 2) (hkt : Γ.2.2.1 t = 10) : ∀ (d n : Nat) (M1 : rhM) (i : Nat), i + d = 64 → d < n → M1.2.2 t 9 = t + 4 → M1.2.2 t 10 = t + 5 → M1.2.2 t 11 = t + 6 → (∀ j, j < i → M1.1 (t + 4) j = 0 ∧ M1.1 (t + 5) j = 0) →
    wp (f_X9_clear_50 (f_X9_clear_79 Γ) Γ n M1 t (J i)) (fun M' => Fr [t + 4, t + 5, t + 6] M1 M' ∧ (∀ j, j < 64 → M'.1 (t + 4) j = 0 ∧ M'.1 (t + 5) j = 0) ∧ M'.1 (t + 6) 0 = 0 ∧ M'.1 (t + 6) 1 = 0) := by
  intro d
  induction d with
  | zero =>
    intro n M1 i hi hn r9 r10 r11 hz
    obtain ⟨n, rfl⟩ : ∃ k, n = k + 1 := ⟨n - 1, by omega⟩
    rw [f_X9_clear_50, wp_ck_t hkt, r10, wp_ck_t hk5.1, hk5.2, show Int32.ofNat 64 = J ((64 : Nat) : Int) from rfl, wp_ite_f (by rw [J_lt (by omega) (by omega) (by omega) (by omega)]; omega), f_X9_clear_79, wp_ck_t hkt, r11, wp_ck_t hk6, wp_bind, f_X1_clear, wp_ck_t hk6]
    show wp (some (rhsi (rhsi M1 (t + 6) 0 0) (t + 6) 1 0)) (fun a => wp (some a) _)
    rw [wp_some, wp_some]
    refine ⟨((Fr.refl _ _).si (by simp) _ _).si (by simp) _ _, fun j hj => ?_, ?_, ?_⟩
    · rw [si_1, if_neg (by omega), si_1, if_neg (by omega), si_1, if_neg (by omega), si_1, if_neg (by omega)]; exact hz j (by omega)
    · rw [si_1, if_neg (by omega), si_1, if_pos ⟨rfl, rfl⟩]
    · rw [si_1, if_pos ⟨rfl, rfl⟩]
  | succ d ih =>
    intro n M1 i hi hn r9 r10 r11 hz
    obtain ⟨n, rfl⟩ : ∃ k, n = k + 1 := ⟨n - 1, by omega⟩
    have hv : vp_nar .boolean 0 = (0 : Int32) := by decide
    rw [f_X9_clear_50, wp_ck_t hkt, r10, wp_ck_t hk5.1, hk5.2, show Int32.ofNat 64 = J ((64 : Nat) : Int) from rfl, wp_ite_t (by rw [J_lt (by omega) (by omega) (by omega) (by omega)]; omega), r9, wp_ck_t hk4.1, wp_ck_t (by rw [J_toInt (by omega) (by omega), hk4.2]; omega), wp_ck_t (by rw [J_toInt (by omega) (by omega)]; omega), J_clamp (by omega) (by omega), Int.toNat_natCast, hv]
    show wp (f_X9_clear_50 (f_X9_clear_79 Γ) Γ n (rhsi (rhsi M1 (t + 4) i 0) (t + 5) i 0) t (J i + 1)) _
    rw [show J i + 1 = J ((i + 1 : Nat) : Int) by rw [show (1 : Int32) = J 1 from rfl, J_add, J_suc]]
    have F : Fr [t + 4, t + 5, t + 6] M1 (rhsi (rhsi M1 (t + 4) i 0) (t + 5) i 0) := ((Fr.refl _ _).si (by simp) _ _).si (by simp) _ _
    refine (ih n (rhsi (rhsi M1 (t + 4) i 0) (t + 5) i 0) (i + 1) (by omega) (by omega) r9 r10 r11 (fun j hj => ?_)).mono (fun M' z => ⟨F.trans z.1, z.2⟩)
    rw [si_1, if_neg (by omega), si_1]
    by_cases c : j = i
    · rw [if_pos ⟨rfl, c⟩, si_1, if_pos ⟨rfl, c⟩]; exact ⟨rfl, rfl⟩
    · rw [if_neg (fun q => c q.2), si_1, if_neg (fun q => c q.2), si_1, if_neg (by omega)]; exact hz j (by omega)
theorem c_begin (hG : GK Γ) (hT : TSh Γ M t) (ht : t = 11 ∨ t = 22) (r6 : M.2.2 3 6 = 10) : wp (f_X4_begin Γ M 3 t) (fun M' => Fr [3, 10, t, t + 2, t + 3, t + 4, t + 5, t + 6] (rhsr (rhsr M 3 10 t) 3 11 (t + 6)) M' ∧ CK M' t b0 ∧ M'.1 3 0 = 0) := by
  have hbig := FU_big
  have rt : (rhsr M 3 10 t).2.2 t 11 = t + 6 := by rw [sr_ne (by omega)]; exact hT.2.2.2.2.2.2.2.2.2.2.2.1.2.2.2.2.2
  have hT4 : TSh Γ (rhsr (rhsr M 3 10 t) 3 11 (t + 6)) t := (hT.sr (by omega) (by omega)).sr (by omega) (by omega)
  rw [f_X4_begin, wp_ck_t (GKk3 hG), wp_ck_t hT.1]
  show wp (rhck (Γ.2.2.1 ((rhsr (rhsr M 3 10 t) 3 11 ((rhsr M 3 10 t).2.2 t 11)).2.2 3 10) = 10) <| (f_X9_clear Γ (rhsr (rhsr M 3 10 t) 3 11 ((rhsr M 3 10 t).2.2 t 11)) ((rhsr (rhsr M 3 10 t) 3 11 ((rhsr M 3 10 t).2.2 t 11)).2.2 3 10)).bind _) _
  rw [rt]
  have r10 : (rhsr (rhsr M 3 10 t) 3 11 (t + 6)).2.2 3 10 = t := by rw [sr_ne (by omega), sr_eq]
  have r36 : (rhsr (rhsr M 3 10 t) 3 11 (t + 6)).2.2 3 6 = 10 := by rw [sr_ne (by omega), sr_ne (by omega)]; exact r6
  rw [r10, wp_ck_t hT.1]
  generalize rhsr (rhsr M 3 10 t) 3 11 (t + 6) = M4 at *
  rw [wp_bind, f_X9_clear, wp_ck_t hT.1]
  obtain ⟨-, -, k2, k3, k4, k5, k6, -, -, -, -, ⟨-, q7, q8, q9, q10, q11⟩, -⟩ := hT4
  rw [q7, q8, wp_ck_t k2.1, wp_ck_t (by rw [k2.2]; decide), wp_ck_t k3.1, wp_ck_t (by rw [k3.2]; decide)]
  show wp (f_X9_clear_50 (f_X9_clear_79 Γ) Γ rhFU (rhsi (rhsi (rhsl (rhsi (rhsi (rhsi (rhsi (rhsi M4 t 0 0) t 1 0) t 2 999) t 3 999) t 4 0) t 5 0) (t + 2) 0 0) (t + 3) 0 0) t (J (0 : Nat))) _
  have FA : Fr [3, 10, t, t + 2, t + 3, t + 4, t + 5, t + 6] M4 (rhsi (rhsi (rhsl (rhsi (rhsi (rhsi (rhsi (rhsi M4 t 0 0) t 1 0) t 2 999) t 3 999) t 4 0) t 5 0) (t + 2) 0 0) (t + 3) 0 0) := ((((((((Fr.refl _ _).si (by simp) _ _).si (by simp) _ _).si (by simp) _ _).si (by simp) _ _).si (by simp) _ _).sl (by simp) _ _).si (by simp) _ _).si (by simp) _ _
  have e0 : ∀ k, (rhsi (rhsi (rhsl (rhsi (rhsi (rhsi (rhsi (rhsi M4 t 0 0) t 1 0) t 2 999) t 3 999) t 4 0) t 5 0) (t + 2) 0 0) (t + 3) 0 0).1 t k = if k = 4 then 0 else if k = 3 then 999 else if k = 2 then 999 else if k = 1 then 0 else if k = 0 then 0 else M4.1 t k := fun k => by
    rw [si_1, if_neg (by omega), si_1, if_neg (by omega), sl_1, si_1, si_1, si_1, si_1, si_1]; simp only [true_and]
  have e2 : (rhsi (rhsi (rhsl (rhsi (rhsi (rhsi (rhsi (rhsi M4 t 0 0) t 1 0) t 2 999) t 3 999) t 4 0) t 5 0) (t + 2) 0 0) (t + 3) 0 0).1 (t + 2) 0 = 0 := by rw [si_1, if_neg (by omega), si_1, if_pos ⟨rfl, rfl⟩]
  have e3 : (rhsi (rhsi (rhsl (rhsi (rhsi (rhsi (rhsi (rhsi M4 t 0 0) t 1 0) t 2 999) t 3 999) t 4 0) t 5 0) (t + 2) 0 0) (t + 3) 0 0).1 (t + 3) 0 = 0 := by rw [si_1, if_pos ⟨rfl, rfl⟩]
  generalize rhsi (rhsi (rhsl (rhsi (rhsi (rhsi (rhsi (rhsi M4 t 0 0) t 1 0) t 2 999) t 3 999) t 4 0) t 5 0) (t + 2) 0 0) (t + 3) 0 0 = MA at *
  have rA := FA.1
  refine (c_clear_50 k4 k5 k6 hT.1 64 rhFU MA 0 (by omega) (by omega) (by rw [rA]; exact q9) (by rw [rA]; exact q10) (by rw [rA]; exact q11) (fun j hj => by omega)).mono (fun MB z => ?_)
  have FB : Fr [3, 10, t, t + 2, t + 3, t + 4, t + 5, t + 6] M4 MB := FA.trans (z.1.sub (fun r hr => by simp only [List.mem_cons, List.not_mem_nil, or_false] at hr ⊢; omega))
  have n10 : ∀ r, r ≠ 10 → r ∉ [10] := fun r hr => by simp only [List.mem_singleton]; exact hr
  have nB : ∀ r, ¬ (r = t + 4 ∨ r = t + 5 ∨ r = t + 6) → r ∉ [t + 4, t + 5, t + 6] := fun r hr => by simp only [List.mem_cons, List.not_mem_nil, or_false]; exact hr
  rw [FB.1, r36, wp_bind]
  refine (c_fillJ (GKk10 hG) (GKl10 hG) (by decide) 0 MB).mono (fun MC y => ?_)
  show wp (some (rhsi (rhsi (rhsi (rhsi (rhsi MC 3 7 0) 3 8 0) 3 9 0) 3 0 0) 3 1 (-1))) _
  rw [wp_some]
  have FC : Fr [3, 10, t, t + 2, t + 3, t + 4, t + 5, t + 6] M4 (rhsi (rhsi (rhsi (rhsi (rhsi MC 3 7 0) 3 8 0) 3 9 0) 3 0 0) 3 1 (-1)) := (((((FB.trans (y.1.sub (fun r hr => by simp only [List.mem_singleton] at hr; rw [hr]; simp))).si (by simp) _ _).si (by simp) _ _).si (by simp) _ _).si (by simp) _ _).si (by simp) _ _
  have o3 : ∀ r, r ≠ 3 → (rhsi (rhsi (rhsi (rhsi (rhsi MC 3 7 0) 3 8 0) 3 9 0) 3 0 0) 3 1 (-1)).1 r = MC.1 r := fun r hr => by
    funext k; rw [si_1, if_neg (fun q => hr q.1), si_1, if_neg (fun q => hr q.1), si_1, if_neg (fun q => hr q.1), si_1, if_neg (fun q => hr q.1), si_1, if_neg (fun q => hr q.1)]
  have i3 : ∀ k, (rhsi (rhsi (rhsi (rhsi (rhsi MC 3 7 0) 3 8 0) 3 9 0) 3 0 0) 3 1 (-1)).1 3 k = if k = 1 then -1 else if k = 0 then 0 else if k = 9 then 0 else if k = 8 then 0 else if k = 7 then 0 else MC.1 3 k := fun k => by
    rw [si_1, si_1, si_1, si_1, si_1]; simp only [true_and]
  generalize rhsi (rhsi (rhsi (rhsi (rhsi MC 3 7 0) 3 8 0) 3 9 0) 3 0 0) 3 1 (-1) = MD at *
  have et : ∀ k, MD.1 t k = if k = 4 then 0 else if k = 3 then 999 else if k = 2 then 999 else if k = 1 then 0 else if k = 0 then 0 else M4.1 t k := fun k => by
    rw [o3 t (by omega), y.1.i (n10 t (by omega)), z.1.i (nB t (by omega))]; exact e0 k
  refine ⟨FC, ⟨⟨by rw [et]; rfl, by rw [et]; rfl, by rw [et]; rfl, by rw [et]; rfl, by rw [et]; rfl⟩, ⟨fun k hk => (by cases hk), fun k hk => (by cases hk)⟩, fun r hr => (by cases hr), fun S hS => ?_, fun a b ha hb => ?_, fun h hh => (by cases hh), fun r hr => ?_, ⟨?_, ?_, trivial, trivial⟩, ⟨by rw [i3]; rfl, by rw [i3]; rfl, by rw [i3]; rfl⟩⟩, by rw [i3]; rfl⟩
  · have hS : S < 1 := hS
    have e : S = 0 := by omega
    rw [e, o3 (t + 2) (by omega), o3 (t + 3) (by omega), y.1.i (n10 (t + 2) (by omega)), y.1.i (n10 (t + 3) (by omega)), z.1.i (nB (t + 2) (by omega)), z.1.i (nB (t + 3) (by omega)), e2, e3]
    exact ⟨rfl, rfl⟩
  · rw [o3 (t + 4) (by omega), o3 (t + 5) (by omega), y.1.i (n10 (t + 4) (by omega)), y.1.i (n10 (t + 5) (by omega)), (z.2.1 _ (by omega)).1, (z.2.1 _ (by omega)).2]
    exact ⟨rfl, rfl⟩
  · rw [o3 10 (by omega), y.2 r hr]; rfl
  · rw [o3 (t + 6) (by omega), y.1.i (n10 (t + 6) (by omega)), z.2.2.1]; rfl
  · rw [o3 (t + 6) (by omega), y.1.i (n10 (t + 6) (by omega)), z.2.2.2]; rfl
theorem c_tbegin (hG : GK Γ) (r40 : M.2.2 4 0 = 5) (h2 : Bs (M.1 2) bs) (hl : bs.length ≤ 1600) (h14 : C14 M) (hb : ∀ z, z ∈ bs → -128 ≤ z.toInt ∧ z.toInt < 128) : wp (f_X8_begin Γ M 4 2 (J bs.length)) (fun M' => Fr [4] (rhsr M 4 1 2) M' ∧ CT M' bs 0) := by
  rw [f_X8_begin, wp_ck_t (GKk4 hG), wp_ck_t (GKk2 hG), GKl2 hG]
  show wp ((f_X8_advance Γ (rhsi (rhsi (rhsr M 4 1 2) 4 2 (if Int32.ofNat 1600 < J bs.length then Int32.ofNat 1600 else J bs.length)) 4 3 0) 4).bind _) _
  rw [show Int32.ofNat 1600 = J ((1600 : Nat) : Int) from rfl, if_neg (by rw [J_lt (by omega) (by omega) (by omega) (by omega)]; omega), wp_bind]
  have F : Fr [4] (rhsr M 4 1 2) (rhsi (rhsi (rhsr M 4 1 2) 4 2 (J bs.length)) 4 3 0) := ((Fr.refl _ _).si (by simp) _ _).si (by simp) _ _
  refine c_advance hG (i := 0) ⟨?_, ?_, ?_, ?_, hl, ?_, hb⟩ ?_ (by omega) (fun M' f c => (wp_some _ _).mpr ⟨F.trans f, c⟩)
  · show (rhsr M 4 1 2).2.2 4 0 = 5
    rw [sr_ne (by omega)]; exact r40
  · show (rhsr M 4 1 2).2.2 4 1 = 2
    rw [sr_eq]
  · rw [si_1, if_neg (by omega), si_1, if_pos ⟨rfl, rfl⟩]
  · have e : (rhsi (rhsi (rhsr M 4 1 2) 4 2 (J bs.length)) 4 3 0).1 2 = M.1 2 := by funext k; rw [si_1, if_neg (by omega), si_1, if_neg (by omega)]; rfl
    rw [e]; exact h2
  · exact h14
  · rw [si_1, if_pos ⟨rfl, rfl⟩]; rfl
theorem lLines_bad {x : Rs} (h : x.1.2.1 ≠ 0) (n : Nat) : lLines bs n x = x := by
  cases n with
  | zero => rfl
  | succ n => rw [lLines, if_neg (fun q => h q.1)]
theorem pw_lines : ∀ (n : Nat) (x : Rs), PW x.2 → (lLines bs n x).1.2.1 = 0 → PW (lLines bs n x).2 := by
  intro n
  induction n with
  | zero => intro x h _; exact h
  | succ n ih =>
    intro x hP h
    rw [lLines] at h ⊢
    by_cases c : x.1.2.1 = 0 ∧ qk bs x.1.1 ≠ 0
    · rw [if_pos c] at h ⊢
      have g : (lLine bs x).1.2.1 = 0 := by
        apply Classical.byContradiction
        intro q
        rw [lLines_bad q] at h; exact q h
      exact ih _ (pw_line hP g) h
    · rw [if_neg c]; exact hP
theorem c_reads_17 {K : rhM → Nat → Option (Int32 × rhM)} {Q : Int32 × rhM → Prop} : ∀ (m i n : Nat) (M : rhM) (s : Ps) (B : Bd), i + m = 1600 → m < n → LF Γ M t → CS M bs s → CF M t → (s.2.1 = 0 → CK M t B ∧ PW B) →
    (∀ M', Fr (LW t) M M' → CF M' t → (∃ s', CS M' bs s' ∧ s'.2 = (lLines bs m (s, B)).1.2) → ((lLines bs m (s, B)).1.2.1 = 0 → CK M' t (lLines bs m (s, B)).2) → wp (K M' 3) Q) → wp (f_X4_reads_17 K Γ n M 3 (J i)) Q := by
  intro m
  induction m with
  | zero =>
    intro i n M s B hi hn hF hS hC hK hQ
    obtain ⟨n, rfl⟩ : ∃ k, n = k + 1 := ⟨n - 1, by omega⟩
    rw [f_X4_reads_17, wp_ite_f (by rw [show (1600 : Int32) = J 1600 from rfl, J_lt (by omega) (by omega) (by omega) (by omega)]; omega)]
    exact hQ M (Fr.refl _ _) hC ⟨s, hS, rfl⟩ (fun g => (hK g).1)
  | succ m ih =>
    intro i n M s B hi hn hF hS hC hK hQ
    obtain ⟨n, rfl⟩ : ∃ k, n = k + 1 := ⟨n - 1, by omega⟩
    have hG := hF.1
    have hx := qx_rng bs s.1
    have hk5 : qk bs s.1 ≤ 5 := by unfold qk; (repeat' split) <;> omega
    rw [f_X4_reads_17, wp_ite_t (by rw [show (1600 : Int32) = J 1600 from rfl, J_lt (by omega) (by omega) (by omega) (by omega)]; omega), wp_ck_t (GKk3 hG)]
    by_cases c : s.2.1 = 0
    · obtain ⟨hK, hP⟩ := hK c
      rw [wp_ite_t (by rw [fault_if hS]; exact c), hS.2.2.1, wp_ck_t (GKk4 hG), hS.1.2.2.2.1]
      by_cases c0 : qk bs s.1 = 0
      · have e : lLines bs (m + 1) (s, B) = (s, B) := by rw [lLines, if_neg (fun q => q.2 c0)]
        rw [e] at hQ
        rw [wp_ite_t (by rw [c0]; rfl)]
        exact hQ M (Fr.refl _ _) hC ⟨s, hS, rfl⟩ (fun _ => hK)
      · have e : lLines bs (m + 1) (s, B) = lLines bs m (lLine bs (s, B)) := by rw [lLines, if_pos ⟨c, c0⟩]
        rw [e] at hQ
        rw [wp_ite_f (by rw [show (0 : Int32) = J 0 from rfl, J_eq (by omega) (by omega) (by omega) (by omega)]; omega), hS.1.2.2.2.2.1]
        have go : ∀ (g : Rs → Rs), lLine bs (s, B) = g (s, B) → ∀ M', Fr (LW t) M M' ∧ (∃ s', CS M' bs s' ∧ s'.2 = (g (s, B)).1.2 ∧ (s'.2.1 = 0 → s' = (g (s, B)).1)) ∧ CF M' t ∧ ((g (s, B)).1.2.1 = 0 → CK M' t (g (s, B)).2) → wp (f_X4_reads_134 (f_X4_reads_17 K Γ n) Γ M' 3 (J i)) Q := fun g eg M' hM => by
          obtain ⟨h1, ⟨s', h2, h3, h4⟩, h5, h6⟩ := hM
          rw [← eg] at h3 h4 h6
          show wp (f_X4_reads_17 K Γ n M' 3 (J i + 1)) Q
          rw [show (1 : Int32) = J 1 from rfl, J_add, J_suc]
          by_cases g0 : (lLine bs (s, B)).1.2.1 = 0
          · have es := h4 (by rw [h3]; exact g0)
            rw [es] at h2
            refine ih (i + 1) n M' (lLine bs (s, B)).1 (lLine bs (s, B)).2 (by omega) (by omega) (hF.r h1.1) h2 h5 (fun _ => ⟨h6 g0, pw_line hP g0⟩) (fun M2 y1 y2 y3 y4 => hQ M2 (h1.trans y1) y2 y3 y4)
          · have gs : s'.2.1 ≠ 0 := by rw [h3]; exact g0
            refine ih (i + 1) n M' s' (lLine bs (s, B)).2 (by omega) (by omega) (hF.r h1.1) h2 h5 (fun q => absurd q gs) (fun M2 y1 y2 y3 y4 => ?_)
            rw [lLines_bad gs] at y3 y4
            rw [lLines_bad g0] at hQ
            exact hQ M2 (h1.trans y1) y2 (by obtain ⟨z, z1, z2⟩ := y3; exact ⟨z, z1, z2.trans h3⟩) (fun q => absurd q g0)
        have hN : ∀ (f : rhG → rhM → Nat → Option rhM) (g : Rs → Rs), LN Γ t bs f g → lLine bs (s, B) = g (s, B) → wp ((f Γ M 3).bind fun r11 => f_X4_reads_134 (f_X4_reads_17 K Γ n) Γ r11 3 (J i)) Q := fun f g hf eg => by
          rw [wp_bind]
          exact (hf M s B hF hS c hK hP).mono (fun M' z => go g eg M' z)
        by_cases d0 : qx bs s.1 = 0
        · rw [wp_ite_t (by rw [d0]; rfl)]
          exact hN _ _ c_readRail (by unfold lLine; rw [if_pos d0])
        rw [wp_ite_f (by rw [show (0 : Int32) = J 0 from rfl, J_eq (by omega) (by omega) (by omega) (by omega)]; exact d0)]
        by_cases d1 : qx bs s.1 = 1
        · rw [wp_ite_t (by rw [d1]; rfl)]
          exact hN _ _ c_readHouse (by unfold lLine; rw [if_neg d0, if_pos d1])
        rw [wp_ite_f (by rw [show (1 : Int32) = J 1 from rfl, J_eq (by omega) (by omega) (by omega) (by omega)]; exact d1)]
        by_cases d2 : qx bs s.1 = 2
        · rw [wp_ite_t (by rw [d2]; rfl)]
          exact hN _ _ c_readBeside (by unfold lLine; rw [if_neg d0, if_neg d1, if_pos d2])
        rw [wp_ite_f (by rw [show (2 : Int32) = J 2 from rfl, J_eq (by omega) (by omega) (by omega) (by omega)]; exact d2)]
        by_cases d3 : qx bs s.1 = 3
        · rw [wp_ite_t (by rw [d3]; rfl)]
          exact hN _ _ c_readNeck (by unfold lLine; rw [if_neg d0, if_neg d1, if_neg d2, if_pos d3])
        rw [wp_ite_f (by rw [show (3 : Int32) = J 3 from rfl, J_eq (by omega) (by omega) (by omega) (by omega)]; exact d3)]
        by_cases d4 : qx bs s.1 = 4
        · rw [wp_ite_t (by rw [d4]; rfl)]
          exact hN _ _ c_readDraws (by unfold lLine; rw [if_neg d0, if_neg d1, if_neg d2, if_neg d3, if_pos d4])
        rw [wp_ite_f (by rw [show (4 : Int32) = J 4 from rfl, J_eq (by omega) (by omega) (by omega) (by omega)]; exact d4)]
        by_cases d5 : qx bs s.1 = 5
        · rw [wp_ite_t (by rw [d5]; rfl)]
          exact hN _ _ c_readLaw (by unfold lLine; rw [if_neg d0, if_neg d1, if_neg d2, if_neg d3, if_neg d4, if_pos d5])
        rw [wp_ite_f (by rw [show (5 : Int32) = J 5 from rfl, J_eq (by omega) (by omega) (by omega) (by omega)]; exact d5), wp_bind]
        have el : lLine bs (s, B) = (rfu bs s, B) := by unfold lLine; rw [if_neg d0, if_neg d1, if_neg d2, if_neg d3, if_neg d4, if_neg d5]
        refine (c_refuse hG hS).mono (fun M' z => go (fun x => (rfu bs x.1, x.2)) el M' ⟨LW.cx z.1, ⟨_, z.2, rfl, fun _ => rfl⟩, (hK.cx hF.2.2.1 z.1).cf hP, fun q => absurd q (rfu_bad s)⟩)
    · rw [lLines_bad c] at hQ
      rw [wp_ite_f (by rw [fault_if hS]; exact c)]
      exact hQ M (Fr.refl _ _) hC ⟨s, hS, rfl⟩ (fun q => absurd q c)
end
