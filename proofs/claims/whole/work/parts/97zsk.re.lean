section
variable {Γ : rhG} {M M' : rhM} {b : Nat} {bs : List Int32} {H : List (List Nat)}
theorem run_more : ∀ (n k : Nat) (x : Xs) (r : Es), run bs H n x = some r → run bs H (n + k) x = some r := by
  intro n
  induction n with
  | zero => intro k x r h; cases h
  | succ n ih =>
    intro k x r h
    rw [show n + 1 + k = (n + k) + 1 from by omega, run]
    rw [run] at h
    split at h
    · rename_i c; rw [if_pos c]; exact ih k _ r h
    · rename_i c; rw [if_neg c]; exact h
theorem Rn_uniq {x : Xs} {r r' : Es} (h : Rn bs H x r) (h2 : Rn bs H x r') : r = r' := by
  obtain ⟨n, hn⟩ := h
  obtain ⟨m, hm⟩ := h2
  have a := run_more n m x r hn
  have c := run_more m n x r' hm
  rw [Nat.add_comm] at c
  rw [a] at c
  exact Option.some.inj c
theorem y_e19 : ∀ (m n : Nat) (M : rhM) (x : Xs), (x.2.2.1.2.1 = 0 → mu bs x ≤ m ∧ XI bs x) → m < n → EV Γ M b H → XSt M b bs x → wp (f_X12_e_19 Γ n M 102 (bf x.1)) (fun M' => ∃ r, Rn bs H x r ∧ YL b M M' ∧ QS M' bs r.1 ∧ (r.1.2.1 = 0 → EC M' b r.2)) := by
  intro m
  induction m with
  | zero =>
    intro n M x hm hn hE hX
    obtain ⟨n, rfl⟩ : ∃ k, n = k + 1 := ⟨n - 1, by omega⟩
    obtain ⟨hG, hR, hb, h35, hN, hH, h6⟩ := id hE
    obtain ⟨hQ, hT⟩ := hX
    rw [f_X12_e_19, wp_ck_t (GKk102 hG), wp_bind, y_good hG hQ, wp_some]
    by_cases g : x.2.2.1.2.1 = 0
    · obtain ⟨h1, h2⟩ := hm g
      have hnil : x.2.1.length = 0 := by unfold mu at h1; omega
      rw [if_pos g, wp_ite_f (by decide), (hT g).1.1, hnil, wp_ite_f (by decide), wp_some]
      exact ⟨_, Rn_stop (fun q => q.2 (List.length_eq_zero_iff.mp hnil)), YL.refl _ _, hQ, fun _ => (hT g).2.1⟩
    · rw [if_neg g, wp_ite_t rfl, wp_some]
      exact ⟨_, Rn_stop (fun q => g q.1), YL.refl _ _, hQ, fun q => absurd q g⟩
  | succ m ih =>
    intro n M x hm hn hE hX
    obtain ⟨n, rfl⟩ : ∃ k, n = k + 1 := ⟨n - 1, by omega⟩
    obtain ⟨hG, hR, hb, h35, hN, hH, h6⟩ := id hE
    obtain ⟨hQ, hT⟩ := id hX
    rw [f_X12_e_19, wp_ck_t (GKk102 hG), wp_bind, y_good hG hQ, wp_some]
    by_cases g : x.2.2.1.2.1 = 0
    · obtain ⟨h1, h2⟩ := hm g
      rw [if_pos g, wp_ite_f (by decide), (hT g).1.1]
      by_cases hnil : x.2.1 = []
      · rw [hnil, wp_ite_f (by decide), wp_some]
        exact ⟨_, Rn_stop (fun q => q.2 hnil), YL.refl _ _, hQ, fun _ => (hT g).2.1⟩
      have hpos : 0 < x.2.1.length := Nat.pos_of_ne_zero (fun z => hnil (List.length_eq_zero_iff.mp z))
      have hl56 : x.2.1.length ≤ 1 + 7 * wth x.2.1 + tR6 x.2.1 := h2.1.len
      have h6' := tR6_le x.2.1
      have hw7 := h2.2.2.1
      rw [wp_ite_t (by rw [show (0 : Int32) = J 0 from rfl, J_lt (by omega) (by omega) (by omega) (by omega)]; omega)]
      have go : ∀ r : Int32 × rhM, YR b bs M (stp bs H x) r → wp (f_X12_e_48 (f_X12_e_19 Γ n) Γ r.2 102 r.1) (fun M' => ∃ r, Rn bs H x r ∧ YL b M M' ∧ QS M' bs r.1 ∧ (r.1.2.1 = 0 → EC M' b r.2)) := fun r y => by
        obtain ⟨y1, y2, y3⟩ := y
        show wp (f_X12_e_19 Γ n r.2 102 r.1) _
        rw [y1]
        refine (ih n r.2 (stp bs H x) (fun g2 => ?_) (by omega) (hE.yl y2) y3).mono (fun M' z => ?_)
        · obtain ⟨xb, xp, xs⟩ := x
          cases xb with
          | true =>
            have := stU_ok (H := H) (st := xp) (s := xs) hnil h2 g2
            exact ⟨by have a := this.2; show mu bs (stU bs H xp xs) ≤ m; have h1 : mu bs (true, xp, xs) ≤ m + 1 := h1; omega, this.1⟩
          | false =>
            have := stB_ok (st := xp) (s := xs) hnil h2 g2
            exact ⟨by have a := this.2; show mu bs (stB bs xp xs) ≤ m; have h1 : mu bs (false, xp, xs) ≤ m + 1 := h1; omega, this.1⟩
        · obtain ⟨r', z1, z2, z3, z4⟩ := z
          exact ⟨r', Rn_step g hnil z1, y2.trans z2, z3, z4⟩
      obtain ⟨xb, xp, xs⟩ := x
      cases xb with
      | true =>
        show wp (if (bf true) = 0 then _ else _) _
        rw [wp_ite_f (by decide), wp_bind]
        exact (y_unit hE hX h2 hnil g).mono go
      | false =>
        show wp (if (bf false) = 0 then _ else _) _
        rw [wp_ite_t (show bf false = 0 from rfl), wp_bind]
        exact (y_behind hE hX h2 hnil g).mono go
    · rw [if_neg g, wp_ite_t rfl, wp_some]
      exact ⟨_, Rn_stop (fun q => g q.1), YL.refl _ _, hQ, fun q => absurd q g⟩
/-- the law as a whole, with the ; behind it -/
theorem y_e {s : Ps} (hE : EV Γ M b H) (hQ : QS M bs s) (hg : s.2.1 = 0) (hs : s.1 ≤ bs.length) (hlen : bs.length ≤ 1600) (h36 : M.1 102 36 = J (500 * b : Nat)) (h108 : M.1 108 b = J (0 : Nat)) : wp (f_X12_e Γ M 102) (fun M' => YL b M M' ∧ ∃ r : Es, QS M' bs r.1 ∧ (r.1.2.1 = 0 → EC M' b r.2) ∧ (tSign bs 59 r.1).2 = (tSign bs 59 (pEk bs H 7 (s, [], 0)).1).2 ∧ ((tSign bs 59 (pEk bs H 7 (s, [], 0)).1).2.1 = 0 → r = pEk bs H 7 (s, [], 0))) := by
  have hbig := FU_big
  obtain ⟨hG, hR, hb, h35, hN, hH, h6⟩ := id hE
  rw [f_X12_e, wp_ck_t (GKk102 hG)]
  have q2 : QS (rhsi (rhsi M 102 38 0) 102 37 0) bs s := (hQ.f (by decide) _).f (by decide) _
  have L2 : YL b M (rhsi (rhsi M 102 38 0) 102 37 0) := ((YL.refl _ _).si (by omega) _).si (by omega) _
  have p2 : PS (rhsi (rhsi M 102 38 0) 102 37 0) [] := ⟨by rw [si_1, if_neg (by omega), si_1, if_pos ⟨rfl, rfl⟩]; rfl, fun j t h => by simp at h⟩
  show wp ((f_X12_pushE Γ (rhsi (rhsi M 102 38 0) 102 37 0) 102 (J (8 : Nat)) 0).bind _) _
  rw [wp_bind]
  refine (y_push (M := rhsi (rhsi M 102 38 0) 102 37 0) (st := []) (b := b) (bs := bs) hG hR p2 (by decide) (k := 8) (c := 0) rfl).mono (fun M1 z => ?_)
  obtain ⟨z1, z2, z3, z4, z5⟩ := z
  have x1 : XSt M1 b bs (true, [(8, 0)], (s, [], 0)) := by
    refine ⟨z2 _ q2, fun _ => ⟨z3, ⟨?_, ?_, trivial, trivial⟩, ?_⟩⟩
    · rw [z5 36 (by decide), si_1, if_neg (by omega), si_1, if_neg (by omega)]; exact h36
    · rw [z4 108 (by decide) (by decide) (by decide), si_1, if_neg (by omega), si_1, if_neg (by omega)]; exact h108
    · rw [z5 37 (by decide), si_1, if_pos ⟨rfl, rfl⟩]; rfl
  have i1 : XI bs (true, [(8, 0)], (s, [], 0)) := ⟨⟨by decide, trivial⟩, rfl, by show wth [(8, 0)] ≤ 7; decide, by show 0 ≤ 40; omega, by show ([] : List (Nat × Nat)).length + [((8 : Nat), (0 : Nat))].length ≤ 9 * 0 + 1 + (if true = true then 1 + wth [(8, 0)] else 0); decide, hs⟩
  show wp (f_X12_e_19 Γ rhFU M1 102 (bf true)) _
  refine (y_e19 (H := H) 4000 rhFU M1 (true, [(8, 0)], (s, [], 0)) (fun _ => ⟨by show 2 * (bs.length - s.1) + 1 ≤ 4000; omega, i1⟩) (by omega) (hE.yl (L2.trans z1)) x1).mono (fun M2 y => ?_)
  obtain ⟨r, y1, y2, y3, y4⟩ := y
  obtain ⟨r', w1, w2, w3⟩ := sim_law (bs := bs) (H := H) (s := (s, [], 0)) hg (by show 0 ≤ 40; omega)
  have e := Rn_uniq y1 w1
  rw [← e] at w2 w3
  exact ⟨L2.trans (z1.trans y2), r, y3, y4, w2, w3⟩
end
