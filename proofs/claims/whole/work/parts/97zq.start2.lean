/-! THE START KEEPS THE RELATION -/
def T0 : Tn := ((0, 0, 999, 999), (fun _ => 0), (fun _ => 0), (fun _ => 0), (fun _ _ => 0), (fun _ => 0), [], 0)
theorem T0_wf : TWf T0 := ⟨by decide, by decide, by decide, by decide, fun r hr => absurd hr (Nat.not_lt_zero r), fun h hh => absurd hh (Nat.not_lt_zero h), fun _ _ => ⟨show (-99 : Int) ≤ 0 by decide, show (0 : Int) ≤ 99 by decide⟩, Or.inl rfl, fun o ho => by simp [T0, tC] at ho, by decide, by decide⟩
theorem fst_T0 : fst T0 = [] := rfl
theorem bd_fit : bd1 0 ≤ 210 ∧ bd2 0 ≤ 400000 := by decide +kernel
theorem start_rel {Γ : rhG} {M : rhM} (h : ry_chk2 (Γ, M) = true) : REL Γ M := by
  unfold ry_chk2 at h
  simp only [Bool.and_eq_true, beq_iff_eq] at h
  obtain ⟨⟨⟨⟨⟨⟨⟨⟨⟨⟨⟨h1, h2⟩, h3⟩, h4⟩, h5⟩, h6⟩, h7⟩, h8⟩, h9⟩, h10⟩, h11⟩, h12⟩ := h
  rw [List.all_eq_true] at h3 h4 h5 h6 h7 h8
  have hG : GK Γ := ⟨by omega, fun r hr => by
    have := h3 r (List.mem_range.mpr hr)
    simp only [Bool.and_eq_true, beq_iff_eq] at this
    exact this⟩
  have hC : CR M := fun x hx => by have := h4 x hx; simpa using this
  have hR : MR M := fun f hf hn => by
    have := h5 f (List.mem_range.mpr hf)
    simp only [Bool.or_eq_true, beq_iff_eq] at this
    exact this.resolve_left hn
  have iv : ∀ r k v, (r, k, v) ∈ ry_ints → M.1 r k = J v := fun r k v hm => by have := h6 _ hm; simpa using this
  have lv : ∀ r k v, (r, k, v) ∈ ry_lngs → M.2.1 r k = v := fun r k v hm => by have := h7 _ hm; simpa using this
  have hwn : wn ([] : Ar) = 0 := rfl
  refine ⟨T0, [], [], 0, [], [], [], [], fun _ => none, [], 0, 0, 11, 22, hG, ⟨⟨T0_wf, fun h => absurd h (Nat.lt_irrefl 0), fun r hr => absurd hr (Nat.not_lt_zero r)⟩, ⟨by decide, fun b hb => by simp at hb⟩, by decide, ⟨List.nodup_nil, fun h hh => by simp at hh⟩, ⟨rfl, by decide⟩, ⟨by decide, fun a ha => by simp at ha⟩, fun k x hx => (by cases hx), ⟨by decide, fun s hs => by simp at hs⟩, by decide, by decide⟩, ?_, ?_⟩
  · refine ⟨hC, ⟨iv 1 1 0 (by decide), fun i b hb => by simp at hb⟩, ⟨iv 3 0 0 (by decide), fun h => absurd rfl h⟩, ⟨Or.inl ⟨rfl, rfl⟩, h10, h11, ?_⟩, ⟨lv 33 0 0 (by decide), iv 33 1 0 (by decide), fun r hr => absurd hr (Nat.not_lt_zero r)⟩, ⟨iv 47 1 0 (by decide), iv 47 2 0 (by decide), trivial⟩, ⟨iv 49 1 0 (by decide), trivial⟩, ⟨iv 1 11 0 (by decide), lv 1 10 0 (by decide)⟩, fun k hk => ⟨fun _ => ?_, fun x hx => (by cases hx)⟩, ⟨iv 55 0 0 (by decide), fun i s hs => by simp at hs⟩, iv 1 16 0 (by decide), fun n hn => Or.inl ?_, fun i hi => ?_, ?_⟩
    · refine ⟨iv 11 0 0 (by decide), iv 11 1 0 (by decide), iv 11 2 999 (by decide), iv 11 3 999 (by decide), lv 11 5 0 (by decide), fun r hr => absurd hr (Nat.not_lt_zero r), fun S hS => ?_, fun S hS => ?_, fun a b ha => absurd ha (Nat.not_lt_zero a), iv 17 0 0 (by decide), iv 17 1 0 (by decide), trivial, trivial⟩
      · have : S = 0 := by have : S < 1 := hS; omega
        subst this; exact iv 13 0 0 (by decide)
      · have : S = 0 := by have : S < 1 := hS; omega
        subst this; exact iv 14 0 0 (by decide)
    · rcases (show k = 0 ∨ k = 1 ∨ k = 2 by omega) with rfl | rfl | rfl
      · exact lv 53 0 (-1) (by decide)
      · exact lv 53 1 (-1) (by decide)
      · exact lv 53 2 (-1) (by decide)
    · rcases (show n = 0 ∨ n = 1 ∨ n = 2 ∨ n = 3 by omega) with rfl | rfl | rfl | rfl
      · exact iv 65 0 (-1) (by decide)
      · exact iv 65 1 (-1) (by decide)
      · exact iv 65 2 (-1) (by decide)
      · exact iv 65 3 (-1) (by decide)
    · have := h8 i (List.mem_range.mpr hi)
      simpa using this
    · have hb := bd_fit
      exact ⟨52, 64, Or.inl ⟨h9, h12, Or.inl rfl, by omega, ⟨GKk52 hG, GKl52 hG⟩, by omega, iv 51 1 0 (by decide), ⟨by decide, by decide⟩, trivial, by rw [h1]; omega, by rw [h2]; omega⟩⟩
  · refine ⟨hR, ⟨iv 102 2 0 (by decide), fun i b hb => by simp at hb⟩, ⟨iv 102 4 0 (by decide), iv 102 5 (-1) (by decide)⟩, ⟨0, 0, ?_⟩, ⟨trivial, fun r hr => absurd hr (Nat.not_lt_zero r)⟩, ⟨iv 102 48 0 (by decide), iv 102 49 0 (by decide), trivial, trivial⟩, ⟨iv 102 51 0 (by decide), trivial⟩, ⟨iv 102 53 0 (by decide), trivial⟩, ⟨iv 102 66 0 (by decide), trivial⟩, fun k hk => ⟨fun _ => ?_, fun x hx => (by cases hx)⟩, ⟨iv 102 82 0 (by decide), fun i s hs => by simp at hs⟩, iv 102 83 0 (by decide)⟩
    · exact ⟨by decide, iv 102 34 0 (by decide), iv 105 0 0 (by decide), iv 106 0 0 (by decide), iv 109 0 999 (by decide), iv 110 0 999 (by decide), iv 108 0 0 (by decide), iv 119 0 0 (by decide), iv 111 0 0 (by decide), iv 102 44 (-1) (by decide), iv 102 45 0 (by decide), by decide, by decide, by decide, by decide, fun r hr => absurd hr (Nat.not_lt_zero r), fun r hr => absurd hr (Nat.not_lt_zero r), fun r hr => absurd hr (Nat.not_lt_zero r), fun r hr => absurd hr (Nat.not_lt_zero r), fun a b ha => absurd ha (Nat.not_lt_zero a), trivial, trivial⟩
    · rcases (show k = 0 ∨ k = 1 ∨ k = 2 by omega) with rfl | rfl | rfl
      · exact iv 159 0 (-1) (by decide)
      · exact iv 159 1 (-1) (by decide)
      · exact iv 159 2 (-1) (by decide)
theorem gn_nu (Γ : rhG) (k n sl : Nat) : (rhgn Γ k n sl).2.2.1 (nu (Γ.1 + 1)) = k := by simp [rhgn]
/-- the pure part, but for the call that reads a town -/
theorem law_from (hTown : ∀ Γ M, REL Γ M → wp (f_X11_town Γ M 1) (fun x => wp (f_X12_town Γ x.2 102) (fun y => x.1 = y.1 ∧ REL Γ y.2))) : ∀ (L : Nat), L ≤ 3072 → ∀ (xs : Nat → Int32), ∃ (Γf : rhG) (Mf : rhM), f_L_law L xs rhG0 rhM0 = some (1, Γf, Mf) ∧ Γf.1 ≤ 60000 ∧ Γf.2.1 ≤ 8922250 := by
  intro L hL xs
  have h1 := ry_s1_ok
  have h2 := ry_s2_ok2
  have goal : wp (f_L_law L xs rhG0 rhM0) (fun r => r.1 = 1 ∧ r.2.1.1 ≤ 60000 ∧ r.2.1.2.1 ≤ 8922250) := by
    rw [f_L_law]
    dsimp only
    rw [wp_ck_t (gn_nu rhG0 12 0 17), wp_bind]
    show wp ry_s1 _
    cases e1 : ry_s1 with
    | none => rw [e1] at h1; cases h1
    | some r1 =>
      rw [e1] at h1
      have h101 : r1.1.1 = 119 := by simpa using h1
      rw [wp_some, wp_ck_t (gn_nu r1.1 13 0 90), wp_bind]
      have e2 : ry_s2 = f_X12_init (rhgn r1.1 13 0 90) (rhmn r1.2 (nu (r1.1.1 + 1))) (nu (r1.1.1 + 1)) := by
        unfold ry_s2; rw [e1]; rfl
      rw [← e2]
      cases e3 : ry_s2 with
      | none => rw [e3] at h2; cases h2
      | some r2 =>
        rw [e3] at h2
        have hc : ry_chk2 r2 = true := by simpa using h2
        rw [wp_some, h101]
        show wp (f_L_law_18 L xs rhFU r2.1 r2.2 1 102 0) _
        exact law_loop hL xs hTown 512 rhFU r2.1 r2.2 0 (start_rel hc) (by omega) (by omega) (by have := FU_big; omega)
  obtain ⟨r, e, h3, h4, h5⟩ := goal
  exact ⟨r.2.1, r.2.2, by rw [e, ← h3], h4, h5⟩
