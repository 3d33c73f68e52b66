section
variable {Γ : rhG} {t : Nat} {bs : List Int32}
theorem CS.f3 {M : rhM} {s : Ps} (h : CS M bs s) {k : Nat} (h0 : k ≠ 0) (h1 : k ≠ 1) (v : Int32) : CS (rhsi M 3 k v) bs s := by
  obtain ⟨k1, k2, k3, k4, k5, k6⟩ := h
  have F : Fr [3] M (rhsi M 3 k v) := (Fr.refl _ _).si (by simp) _ _
  exact ⟨k1.fr F (by simp) (by simp) (by simp), k2, k3, by rw [si_1, if_neg (by omega)]; exact k4, fun q => by rw [si_1, if_neg (by omega)]; exact k5 q, k6⟩
theorem c_readNeck : LN Γ t bs (f_X4_readNeck) (lNeck bs) := by
  intro M s B hF hS hg hK hP
  obtain ⟨hG, hT, ht, r11, r10, r3, r4, r5, r6⟩ := id hF
  have hv : M.1 3 7 = if (bN B).isSome = true then 1 else 0 := hK.2.2.2.2.2.2.2.2.1
  rw [f_X4_readNeck, wp_ck_t (GKk3 hG), wp_bind]
  refine (c_advU hG hS hv).mono (fun M1 z => ?_)
  obtain ⟨-, -, -, q11, q10, q3, q4, q5, q6⟩ := hF.r z.1.1.1
  have S2 : CS (rhsi M1 3 7 1) bs (advU bs ((bN B).isSome = true) s) := z.2.f3 (by decide) (by decide) 1
  have i4 : (rhsi M1 3 7 1).1 4 = M1.1 4 := by funext j; rw [si_1, if_neg (by omega)]
  have z3 := z.2.2.2.1
  show wp (rhck (Γ.2.2.1 (M1.2.2 3 2) = 9) <| (f_X4_takeNumber Γ (rhsi M1 3 7 1) 3 (J 1) (J 999) ((rhsi M1 3 7 1).1 (M1.2.2 3 2) 5)).bind _) _
  rw [z3, wp_ck_t (GKk4 hG), c_place S2, wp_bind]
  refine (c_takeNumber hG S2 (a := 1) (b := 999) (p := _) (by decide) (by decide)).mono (fun n y => ?_)
  rw [q10, wp_ck_t hT.1]
  have F3 : Fr [3] M1 (rhsi M1 3 7 1) := (Fr.refl _ _).si (by simp) _ _
  have F7 : Fr [t] n.2 (rhsi n.2 t 2 n.1) := (Fr.refl _ _).si (by simp) _ _
  have S7 := y.2.2.e7 ht F7
  show wp ((f_X4_takeSign Γ (rhsi n.2 t 2 n.1) 3 (J 59)).bind _) _
  rw [wp_bind]
  refine (c_takeSign hG S7 (w := 59) (by decide)).mono (fun M5 u => (wp_some _ _).mpr ?_)
  have hS5 : CS M5 bs (lNeck bs (s, B)).1 := u.2
  have sb : ∀ W : List Nat, (∀ r, r ∈ W → r = 3 ∨ r = 4 ∨ r = t) → ∀ r, r ∈ W → r ∈ [3, 4, t] := fun W hW r hr => by simp only [List.mem_cons, List.not_mem_nil, or_false]; exact hW r hr
  have F5 : Fr [3, 4, t] M M5 := (z.1.1.sub (sb _ (fun r hr => by simp only [List.mem_cons, List.not_mem_nil, or_false] at hr; omega))).trans ((F3.sub (sb _ (fun r hr => by simp only [List.mem_cons, List.not_mem_nil, or_false] at hr; omega))).trans ((y.2.1.1.sub (sb _ (fun r hr => by simp only [List.mem_cons, List.not_mem_nil, or_false] at hr; omega))).trans ((F7.sub (sb _ (fun r hr => by simp only [List.mem_cons, List.not_mem_nil, or_false] at hr; omega))).trans (u.1.1.sub (sb _ (fun r hr => by simp only [List.mem_cons, List.not_mem_nil, or_false] at hr; omega))))))
  have nt : t ∉ [3, 4] := by simp only [List.mem_cons, List.not_mem_nil, or_false]; omega
  have it : ∀ k, k ≠ 2 → M5.1 t k = M.1 t k := fun k hk => by
    rw [u.1.1.i nt, si_1, if_neg (fun q => hk q.2), y.2.1.1.i nt, si_1, if_neg (by omega), z.1.1.i nt]
  have itn : M5.1 t 2 = n.1 := by rw [u.1.1.i nt, si_1, if_pos ⟨rfl, rfl⟩]
  have i3 : ∀ k, k ≠ 0 → k ≠ 1 → k ≠ 7 → M5.1 3 k = M.1 3 k := fun k h0 h1 h2 => by
    rw [u.1.2 k h0 h1, si_1, if_neg (by omega), y.2.1.2 k h0 h1, si_1, if_neg (fun q => h2 q.2), z.1.2 k h0 h1]
  have i37 : M5.1 3 7 = 1 := by
    rw [u.1.2 7 (by decide) (by decide), si_1, if_neg (by omega), y.2.1.2 7 (by decide) (by decide), si_1, if_pos ⟨rfl, rfl⟩]
  obtain ⟨⟨k0, k1, k2, k3, k4⟩, ⟨kn1, kn2⟩, kl, ks, kw, kh, kr, kc, kf⟩ := hK
  have o : ∀ r, ¬ (r = 3 ∨ r = 4 ∨ r = t) → M5.1 r = M.1 r ∧ M5.2.1 r = M.2.1 r := fun r hr => F5.2 r (by simp only [List.mem_cons, List.not_mem_nil, or_false]; exact hr)
  refine ⟨F5.sub (fun r hr => by simp only [LW, List.mem_cons, List.not_mem_nil, or_false] at hr ⊢; omega), ⟨_, hS5, rfl, fun _ => rfl⟩, ⟨_, _, hP.1.1, hP.1.2.1, by rw [it 0 (by decide)]; exact k0, by rw [it 1 (by decide)]; exact k1⟩, fun _ => ?_⟩
  refine ⟨⟨by rw [it 0 (by decide)]; exact k0, by rw [it 1 (by decide)]; exact k1, by rw [itn]; exact y.1, by rw [it 3 (by decide)]; exact k3, by rw [it 4 (by decide)]; exact k4⟩, ⟨kn1.eq (o 7 (by omega)).2, kn2.eq (o 8 (by omega)).2⟩, ?_, ?_, ?_, ?_, ?_, ?_, ?_⟩
  · rw [(o (t + 1) (by omega)).1]; exact kl
  · rw [(o (t + 2) (by omega)).1, (o (t + 3) (by omega)).1]; exact ks
  · rw [(o (t + 4) (by omega)).1, (o (t + 5) (by omega)).1]; exact kw
  · rw [(o 9 (by omega)).1]; exact kh
  · rw [(o 10 (by omega)).1]; exact kr
  · exact kc.fr F5 (by simp only [List.mem_cons, List.not_mem_nil, or_false]; omega) (by simp only [List.mem_cons, List.not_mem_nil, or_false]; omega) (by simp only [List.mem_cons, List.not_mem_nil, or_false]; omega)
  · exact ⟨i37, by rw [i3 8 (by decide) (by decide) (by decide)]; exact kf.2.1, by rw [i3 9 (by decide) (by decide) (by decide)]; exact kf.2.2⟩
theorem c_readDraws : LN Γ t bs (f_X4_readDraws) (lDraws bs) := by
  intro M s B hF hS hg hK hP
  obtain ⟨hG, hT, ht, r11, r10, r3, r4, r5, r6⟩ := id hF
  have hv : M.1 3 8 = if (bD B).isSome = true then 1 else 0 := hK.2.2.2.2.2.2.2.2.2.1
  rw [f_X4_readDraws, wp_ck_t (GKk3 hG), wp_bind]
  refine (c_advU hG hS hv).mono (fun M1 z => ?_)
  obtain ⟨-, -, -, q11, q10, q3, q4, q5, q6⟩ := hF.r z.1.1.1
  have S2 : CS (rhsi M1 3 8 1) bs (advU bs ((bD B).isSome = true) s) := z.2.f3 (by decide) (by decide) 1
  have i4 : (rhsi M1 3 8 1).1 4 = M1.1 4 := by funext j; rw [si_1, if_neg (by omega)]
  have z3 := z.2.2.2.1
  show wp (rhck (Γ.2.2.1 (M1.2.2 3 2) = 9) <| (f_X4_takeNumber Γ (rhsi M1 3 8 1) 3 (J 1) (J 999) ((rhsi M1 3 8 1).1 (M1.2.2 3 2) 5)).bind _) _
  rw [z3, wp_ck_t (GKk4 hG), c_place S2, wp_bind]
  refine (c_takeNumber hG S2 (a := 1) (b := 999) (p := _) (by decide) (by decide)).mono (fun n y => ?_)
  rw [q10, wp_ck_t hT.1]
  have F3 : Fr [3] M1 (rhsi M1 3 8 1) := (Fr.refl _ _).si (by simp) _ _
  have F7 : Fr [t] n.2 (rhsi n.2 t 3 n.1) := (Fr.refl _ _).si (by simp) _ _
  have S7 := y.2.2.e7 ht F7
  show wp ((f_X4_takeSign Γ (rhsi n.2 t 3 n.1) 3 (J 59)).bind _) _
  rw [wp_bind]
  refine (c_takeSign hG S7 (w := 59) (by decide)).mono (fun M5 u => (wp_some _ _).mpr ?_)
  have hS5 : CS M5 bs (lDraws bs (s, B)).1 := u.2
  have sb : ∀ W : List Nat, (∀ r, r ∈ W → r = 3 ∨ r = 4 ∨ r = t) → ∀ r, r ∈ W → r ∈ [3, 4, t] := fun W hW r hr => by simp only [List.mem_cons, List.not_mem_nil, or_false]; exact hW r hr
  have F5 : Fr [3, 4, t] M M5 := (z.1.1.sub (sb _ (fun r hr => by simp only [List.mem_cons, List.not_mem_nil, or_false] at hr; omega))).trans ((F3.sub (sb _ (fun r hr => by simp only [List.mem_cons, List.not_mem_nil, or_false] at hr; omega))).trans ((y.2.1.1.sub (sb _ (fun r hr => by simp only [List.mem_cons, List.not_mem_nil, or_false] at hr; omega))).trans ((F7.sub (sb _ (fun r hr => by simp only [List.mem_cons, List.not_mem_nil, or_false] at hr; omega))).trans (u.1.1.sub (sb _ (fun r hr => by simp only [List.mem_cons, List.not_mem_nil, or_false] at hr; omega))))))
  have nt : t ∉ [3, 4] := by simp only [List.mem_cons, List.not_mem_nil, or_false]; omega
  have it : ∀ k, k ≠ 3 → M5.1 t k = M.1 t k := fun k hk => by
    rw [u.1.1.i nt, si_1, if_neg (fun q => hk q.2), y.2.1.1.i nt, si_1, if_neg (by omega), z.1.1.i nt]
  have itn : M5.1 t 3 = n.1 := by rw [u.1.1.i nt, si_1, if_pos ⟨rfl, rfl⟩]
  have i3 : ∀ k, k ≠ 0 → k ≠ 1 → k ≠ 8 → M5.1 3 k = M.1 3 k := fun k h0 h1 h2 => by
    rw [u.1.2 k h0 h1, si_1, if_neg (by omega), y.2.1.2 k h0 h1, si_1, if_neg (fun q => h2 q.2), z.1.2 k h0 h1]
  have i37 : M5.1 3 8 = 1 := by
    rw [u.1.2 8 (by decide) (by decide), si_1, if_neg (by omega), y.2.1.2 8 (by decide) (by decide), si_1, if_pos ⟨rfl, rfl⟩]
  obtain ⟨⟨k0, k1, k2, k3, k4⟩, ⟨kn1, kn2⟩, kl, ks, kw, kh, kr, kc, kf⟩ := hK
  have o : ∀ r, ¬ (r = 3 ∨ r = 4 ∨ r = t) → M5.1 r = M.1 r ∧ M5.2.1 r = M.2.1 r := fun r hr => F5.2 r (by simp only [List.mem_cons, List.not_mem_nil, or_false]; exact hr)
  refine ⟨F5.sub (fun r hr => by simp only [LW, List.mem_cons, List.not_mem_nil, or_false] at hr ⊢; omega), ⟨_, hS5, rfl, fun _ => rfl⟩, ⟨_, _, hP.1.1, hP.1.2.1, by rw [it 0 (by decide)]; exact k0, by rw [it 1 (by decide)]; exact k1⟩, fun _ => ?_⟩
  refine ⟨⟨by rw [it 0 (by decide)]; exact k0, by rw [it 1 (by decide)]; exact k1, by rw [it 2 (by decide)]; exact k2, by rw [itn]; exact y.1, by rw [it 4 (by decide)]; exact k4⟩, ⟨kn1.eq (o 7 (by omega)).2, kn2.eq (o 8 (by omega)).2⟩, ?_, ?_, ?_, ?_, ?_, ?_, ?_⟩
  · rw [(o (t + 1) (by omega)).1]; exact kl
  · rw [(o (t + 2) (by omega)).1, (o (t + 3) (by omega)).1]; exact ks
  · rw [(o (t + 4) (by omega)).1, (o (t + 5) (by omega)).1]; exact kw
  · rw [(o 9 (by omega)).1]; exact kh
  · rw [(o 10 (by omega)).1]; exact kr
  · exact kc.fr F5 (by simp only [List.mem_cons, List.not_mem_nil, or_false]; omega) (by simp only [List.mem_cons, List.not_mem_nil, or_false]; omega) (by simp only [List.mem_cons, List.not_mem_nil, or_false]; omega)
  · exact ⟨by rw [i3 7 (by decide) (by decide) (by decide)]; exact kf.1, i37, by rw [i3 9 (by decide) (by decide) (by decide)]; exact kf.2.2⟩
theorem c_readLaw : LN Γ t bs (f_X4_readLaw) (lLaw bs) := by
  intro M s B hF hS hg hK hP
  obtain ⟨hG, hT, ht, r11, r10, r3, r4, r5, r6⟩ := id hF
  have hv : M.1 3 9 = if (bL B).isSome = true then 1 else 0 := hK.2.2.2.2.2.2.2.2.2.2
  have lH : (bHn B).length = (bH B).length := List.length_map _
  rw [f_X4_readLaw, wp_ck_t (GKk3 hG), wp_bind]
  refine (c_advU hG hS hv).mono (fun M1 z => ?_)
  have K1 := hK.cx ht z.1
  have S2 : CS (rhsi M1 3 9 1) bs (advU bs ((bL B).isSome = true) s) := z.2.f3 (by decide) (by decide) 1
  have F3 : Fr [3] M1 (rhsi M1 3 9 1) := (Fr.refl _ _).si (by simp) _ _
  have hF2 : LF Γ (rhsi M1 3 9 1) t := hF.r z.1.1.1
  have hPE : (advU bs ((bL B).isSome = true) s).2.1 = 0 → bC B = ([], 0) := fun q => by
    have := (advU_good q).2.1
    unfold bC
    cases e : bL B with
    | none => rfl
    | some v => rw [e] at this; exact absurd rfl this
  have P0 : PE (advU bs ((bL B).isSome = true) s, bC B) := by
    refine ⟨?_, fun q => ?_⟩
    · show (bC B).2 ≤ 40
      unfold bC
      cases e : bL B with
      | none => decide
      | some v => exact (hP.2.2.2.2.2 v e).2.2.2
    · have q : (advU bs ((bL B).isSome = true) s).2.1 = 0 := q
      show (bC B).1.length + 9 * (40 - (bC B).2) ≤ 400
      rw [hPE q]; decide
  have n3 : ∀ r, r ≠ 3 → r ∉ [3] := fun r hr => by simp only [List.mem_singleton]; exact hr
  have L2 : LE Γ (rhsi M1 3 9 1) t (bHn B) := ⟨hG, hF2.2.1, ht, ⟨hF2.2.2.2.1, hF2.2.2.2.2.1, hF2.2.2.2.2.2.2.1⟩, K1.2.1.2.eq (F3.l (n3 8 (by decide))), by rw [lH]; exact hP.1.2.1, by rw [F3.i (n3 t (by omega)), lH]; exact K1.1.2.1⟩
  have E2 : CE (rhsi M1 3 9 1) t (bC B) := K1.2.2.2.2.2.2.2.1.fr F3 (n3 _ (by omega)) (n3 _ (by omega)) (n3 _ (by omega))
  show wp ((h_X4_readEither rhDP Γ (rhsi M1 3 9 1) 3 (J (0 : Nat))).bind _) _
  rw [wp_bind]
  refine (c_either (rhsi M1 3 9 1) (advU bs ((bL B).isSome = true) s, bC B) L2 S2 E2 P0).mono (fun M4 y => ?_)
  show wp ((f_X4_takeSign Γ M4 3 (J 59)).bind _) _
  rw [wp_bind]
  refine (c_takeSign hG y.2.1 (w := 59) (by decide)).mono (fun M5 u => (wp_some _ _).mpr ?_)
  have sb : ∀ W : List Nat, (∀ r, r ∈ W → r = 3 ∨ r = 4 ∨ r = t + 6 ∨ r = t + 7 ∨ r = t + 8) → ∀ r, r ∈ W → r ∈ [3, 4, t + 6, t + 7, t + 8] := fun W hW r hr => by simp only [List.mem_cons, List.not_mem_nil, or_false]; exact hW r hr
  have F5 : Fr [3, 4, t + 6, t + 7, t + 8] M M5 := (z.1.1.sub (sb _ (fun r hr => by simp only [List.mem_cons, List.not_mem_nil, or_false] at hr; omega))).trans ((F3.sub (sb _ (fun r hr => by simp only [List.mem_cons, List.not_mem_nil, or_false] at hr; omega))).trans (y.1.1.trans (u.1.1.sub (sb _ (fun r hr => by simp only [List.mem_cons, List.not_mem_nil, or_false] at hr; omega)))))
  have o : ∀ r, ¬ (r = 3 ∨ r = 4 ∨ r = t + 6 ∨ r = t + 7 ∨ r = t + 8) → M5.1 r = M.1 r ∧ M5.2.1 r = M.2.1 r := fun r hr => F5.2 r (by simp only [List.mem_cons, List.not_mem_nil, or_false]; exact hr)
  have i3 : ∀ k, k ≠ 0 → k ≠ 1 → k ≠ 9 → M5.1 3 k = M.1 3 k := fun k h0 h1 h2 => by
    rw [u.1.2 k h0 h1, y.1.2 k h0 h1, si_1, if_neg (fun q => h2 q.2), z.1.2 k h0 h1]
  have i39 : M5.1 3 9 = 1 := by
    rw [u.1.2 9 (by decide) (by decide), y.1.2 9 (by decide) (by decide), si_1, if_pos ⟨rfl, rfl⟩]
  have CFM : CF M5 t := ⟨_, _, hP.1.1, hP.1.2.1, by rw [(o t (by omega)).1]; exact hK.1.1, by rw [(o t (by omega)).1]; exact hK.1.2.1⟩
  have FW : Fr (LW t) M M5 := F5.sub (fun r hr => by simp only [LW, List.mem_cons, List.not_mem_nil, or_false] at hr ⊢; omega)
  have eF : (lLaw bs (s, B)).1 = tSign bs 59 (pEk bs (bHn B) 7 (advU bs ((bL B).isSome = true) s, [], 0)).1 := rfl
  by_cases q : (advU bs ((bL B).isSome = true) s).2.1 = 0
  · have e := hPE q
    rw [e] at y u
    obtain ⟨⟨k0, k1, k2, k3, k4⟩, ⟨kn1, kn2⟩, kl, ks, kw, kh, kr, kc, kf⟩ := hK
    refine ⟨FW, ⟨_, u.2, rfl, fun _ => rfl⟩, CFM, fun g => ?_⟩
    have iT := (o t (by omega)).1
    refine ⟨⟨by rw [iT]; exact k0, by rw [iT]; exact k1, by rw [iT]; exact k2, by rw [iT]; exact k3, by rw [iT]; exact k4⟩, ⟨kn1.eq (o 7 (by omega)).2, kn2.eq (o 8 (by omega)).2⟩, ?_, ?_, ?_, ?_, ?_, ?_, ?_⟩
    · rw [(o (t + 1) (by omega)).1]; exact kl
    · rw [(o (t + 2) (by omega)).1, (o (t + 3) (by omega)).1]; exact ks
    · rw [(o (t + 4) (by omega)).1, (o (t + 5) (by omega)).1]; exact kw
    · rw [(o 9 (by omega)).1]; exact kh
    · rw [(o 10 (by omega)).1]; exact kr
    · exact y.2.2.cx ht u.1
    · exact ⟨by rw [i3 7 (by decide) (by decide) (by decide)]; exact kf.1, by rw [i3 8 (by decide) (by decide) (by decide)]; exact kf.2.1, i39⟩
  · have e1 := (pEk_st (bs := bs) (H := bHn B) (k := 7) (s := (advU bs ((bL B).isSome = true) s, bC B)) q).1
    have e2 := (pEk_st (bs := bs) (H := bHn B) (k := 7) (s := (advU bs ((bL B).isSome = true) s, ([], 0))) q).1
    have b1 : (pEk bs (bHn B) 7 (advU bs ((bL B).isSome = true) s, bC B)).1.2.1 ≠ 0 := by rw [e1]; exact q
    have b2 : (pEk bs (bHn B) 7 (advU bs ((bL B).isSome = true) s, ([], 0))).1.2.1 ≠ 0 := by rw [e2]; exact q
    rw [tSign_bad b1] at u
    have e3 : (lLaw bs (s, B)).1.2 = (advU bs ((bL B).isSome = true) s).2 := by rw [eF, tSign_bad b2, e2]
    refine ⟨FW, ⟨_, u.2, by rw [e3, e1], fun g => absurd g b1⟩, CFM, fun g => ?_⟩
    rw [e3] at g; exact absurd g q
end
