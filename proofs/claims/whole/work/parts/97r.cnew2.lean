/-! CLASS: A NEW SEARCH, WHOLE; THE LAID ROW GROWS -/
theorem SS.mv {Γ Γ' : rhG} {M M' : rhM} {v : Nat} (h : SS Γ M v) (hg : ∀ r, v ≤ r → r ≤ v + 6 → Γ'.2.2.1 r = Γ.2.2.1 r ∧ Γ'.2.2.2 r = Γ.2.2.2 r) (hm : M'.2.2 v = M.2.2 v) : SS Γ' M' v := by
  unfold SS at *
  rw [(hg v (by omega) (by omega)).1, (hg (v + 1) (by omega) (by omega)).1, (hg (v + 1) (by omega) (by omega)).2, (hg (v + 2) (by omega) (by omega)).1, (hg (v + 2) (by omega) (by omega)).2, (hg (v + 3) (by omega) (by omega)).1, (hg (v + 3) (by omega) (by omega)).2, (hg (v + 4) (by omega) (by omega)).1, (hg (v + 4) (by omega) (by omega)).2, (hg (v + 5) (by omega) (by omega)).1, (hg (v + 5) (by omega) (by omega)).2, (hg (v + 6) (by omega) (by omega)).1, (hg (v + 6) (by omega) (by omega)).2, hm]
  exact h
theorem FSh.mv {Γ Γ' : rhG} {M M' : rhM} {v cp tln : Nat} (h : FSh Γ M v cp tln) (hg : ∀ r, v ≤ r → r ≤ v + 5 → Γ'.2.2.1 r = Γ.2.2.1 r ∧ Γ'.2.2.2 r = Γ.2.2.2 r) (hm : M'.2.2 v = M.2.2 v) : FSh Γ' M' v cp tln := by
  unfold FSh at *
  rw [(hg v (by omega) (by omega)).1, (hg (v + 1) (by omega) (by omega)).1, (hg (v + 1) (by omega) (by omega)).2, (hg (v + 2) (by omega) (by omega)).1, (hg (v + 2) (by omega) (by omega)).2, (hg (v + 3) (by omega) (by omega)).1, (hg (v + 3) (by omega) (by omega)).2, (hg (v + 4) (by omega) (by omega)).1, (hg (v + 4) (by omega) (by omega)).2, (hg (v + 5) (by omega) (by omega)).1, (hg (v + 5) (by omega) (by omega)).2, hm]
  exact h
theorem WSh.mv {Γ Γ' : rhG} {M M' : rhM} {v cp : Nat} (h : WSh Γ M v cp) (hg : ∀ r, v ≤ r → r ≤ v + 4 → Γ'.2.2.1 r = Γ.2.2.1 r ∧ Γ'.2.2.2 r = Γ.2.2.2 r) (hm : M'.2.2 v = M.2.2 v) : WSh Γ' M' v cp := by
  unfold WSh at *
  rw [(hg v (by omega) (by omega)).1, (hg (v + 1) (by omega) (by omega)).1, (hg (v + 1) (by omega) (by omega)).2, (hg (v + 2) (by omega) (by omega)).1, (hg (v + 2) (by omega) (by omega)).2, (hg (v + 3) (by omega) (by omega)).1, (hg (v + 3) (by omega) (by omega)).2, (hg (v + 4) (by omega) (by omega)).1, (hg (v + 4) (by omega) (by omega)).2, hm]
  exact h
theorem SSh.mv {Γ Γ' : rhG} {M M' : rhM} {S cp tln Ln : Nat} (h : SSh Γ M S cp tln Ln) (hg : ∀ r, S ≤ r → r ≤ S + 20 → Γ'.2.2.1 r = Γ.2.2.1 r ∧ Γ'.2.2.2 r = Γ.2.2.2 r) (hm : ∀ r, S ≤ r → r ≤ S + 20 → M'.2.2 r = M.2.2 r) : SSh Γ' M' S cp tln Ln := by
  obtain ⟨h1, h2, h3, h4, h5, h6, h7, h8, h9, h10, h11, h12, h13⟩ := h
  have e := hm S (by omega) (by omega)
  refine ⟨(hg S (by omega) (by omega)).1.trans h1, by rw [e]; exact h2, by rw [e]; exact h3, by rw [e]; exact h4, by rw [e]; exact h5, h6.mv (fun r a b => hg r (by omega) (by omega)) (hm _ (by omega) (by omega)), h7.mv (fun r a b => hg r (by omega) (by omega)) (hm _ (by omega) (by omega)), h8.mv (fun r a b => hg r (by omega) (by omega)) (hm _ (by omega) (by omega)),
    (hg (S + 19) (by omega) (by omega)).1.trans h9, by rw [hm (S + 19) (by omega) (by omega)]; exact h10, (hg (S + 20) (by omega) (by omega)).1.trans h11, (hg (S + 20) (by omega) (by omega)).2.trans h12, h13⟩
section
variable {Γ : rhG} {M : rhM}
theorem stg {M1 : rhM} {S f : Nat} (hS : S ≤ Γ.1) (h : OldM (Γ.1 + 1) (Γ.1 + 1) (rhmn M (Γ.1 + 1)) M1) : OldM Γ.1 S M (rhsr M1 S f (Γ.1 + 1)) ∧ (∀ k, k ≠ f → (rhsr M1 S f (Γ.1 + 1)).2.2 S k = M.2.2 S k) ∧ (rhsr M1 S f (Γ.1 + 1)).2.2 S f = Γ.1 + 1 ∧ ∀ r, r ≠ S → (rhsr M1 S f (Γ.1 + 1)).2.2 r = M1.2.2 r := by
  refine ⟨fun r hr => ?_, fun k hk => ?_, sr_eq _ _ _ _, fun r hr => sr_o _ _ _ _ hr⟩
  · have a := h r (by omega)
    have b := mn_o M (Γ.1 + 1) (show r ≠ Γ.1 + 1 by omega)
    refine ⟨a.1.trans b.1, a.2.1.trans b.2.1, fun hne => ?_⟩
    rw [sr_o _ _ _ _ hne, a.2.2 (by omega), b.2.2]
  · have a := h S (by omega)
    have b := mn_o M (Γ.1 + 1) (show S ≠ Γ.1 + 1 by omega)
    rw [sr_ne (by omega), a.2.2 (by omega), b.2.2]
theorem i_search {S t R H : Nat} (hS : S = Γ.1) (kS : Γ.2.2.1 S = 6) (ht : t < S) (kt : Γ.2.2.1 t = 10) (h0 : M.1 t 0 = J R) (h1 : M.1 t 1 = J H) (hR : R ≤ 4) (hH : H ≤ 6) (hw1 : 1 ≤ ways R H) : wp (f_X5_init Γ M S t) (fun r => ∃ tln Ln, r.1.1 = Γ.1 + 20 ∧ r.1.2.1 ≤ Γ.2.1 + 11 * ways R H + 66788 ∧ OldG Γ r.1 ∧ (∀ x, x < S → r.2.1 x = M.1 x ∧ r.2.2.1 x = M.2.1 x ∧ r.2.2.2 x = M.2.2 x) ∧ SSh r.1 r.2 S (ways R H) tln Ln ∧ r.2.1 S 0 = J (ways R H)) := by
  have h60 := ways_max hR hH
  rw [f_X5_init, wp_ck_t kS]
  dsimp only
  obtain ⟨g1, g2, g3, g4⟩ := gn_k Γ 8 0 9
  have og1 := OldG.new Γ 8 0 9
  obtain ⟨G2, hG2⟩ : ∃ G, G = rhgn Γ 8 0 9 := ⟨_, rfl⟩
  rw [← hG2] at g1 g2 g3 g4 og1 ⊢
  rw [wp_ck_t g1, wp_bind]
  refine (i_stand (by omega) g1).mono (fun r5 q => ?_)
  obtain ⟨a1, a2, a3, a4, a5⟩ := q
  have oA := og1.trans a3
  rw [wp_ck_t (by rw [(oA.2 S (by omega)).1]; exact kS)]
  obtain ⟨s1, s2, s3, s4⟩ := stg (f := 5) (show S ≤ Γ.1 by omega) (by rw [g3] at a4; exact a4)
  obtain ⟨M7, hM7⟩ : ∃ N, N = rhsr r5.2 S 5 (Γ.1 + 1) := ⟨_, rfl⟩
  rw [← hM7] at s1 s2 s3 s4 ⊢
  have m1 := s1 t (by omega)
  rw [wp_ck_t (by rw [(oA.2 t (by omega)).1]; exact kt), c_states (R := R) (H := H) (by rw [(oA.2 t (by omega)).1]; exact kt) (by rw [m1.1]; exact h0) (by rw [m1.1]; exact h1) (by omega), wp_bind, wp_some]
  have e10 : ∀ x k, (rhsi M7 S 0 (J (ways R H))).1 x k = if x = S ∧ k = 0 then J (ways R H) else M7.1 x k := fun x k => si_1 _ _ _ _ _ _
  have e10r : (rhsi M7 S 0 (J (ways R H))).2 = M7.2 := rfl
  obtain ⟨M10, hM10⟩ : ∃ N, N = rhsi M7 S 0 (J (ways R H)) := ⟨_, rfl⟩
  rw [← hM10] at e10 e10r ⊢
  -- Found
  obtain ⟨g1', g2', g3', g4'⟩ := gn_k r5.1 1 0 8
  have og2 := OldG.new r5.1 1 0 8
  obtain ⟨G11, hG11⟩ : ∃ G, G = rhgn r5.1 1 0 8 := ⟨_, rfl⟩
  rw [← hG11] at g1' g2' g3' g4' og2 ⊢
  have oB := oA.trans og2
  rw [wp_ck_t (by rw [(oB.2 S (by omega)).1]; exact kS), wp_ck_t g1', show (rhmn M10 (r5.1.1 + 1)).1 S 0 = J (ways R H) by rw [(mn_o M10 _ (show S ≠ r5.1.1 + 1 by omega)).1, e10, if_pos ⟨rfl, rfl⟩], wp_bind]
  refine (i_found (by omega) g1' h60 hw1).mono (fun r15 q => ?_)
  obtain ⟨tln, tc, b0, b0', b1, b2, b3, b4, b5⟩ := q
  have oC := oB.trans b3
  rw [wp_ck_t (by rw [(oC.2 S (by omega)).1]; exact kS)]
  obtain ⟨t1, t2, t3, t4⟩ := stg (f := 2) (show S ≤ r5.1.1 by omega) (by rw [g3'] at b4; exact b4)
  obtain ⟨M17, hM17⟩ : ∃ N, N = rhsr r15.2 S 2 (r5.1.1 + 1) := ⟨_, rfl⟩
  rw [← hM17] at t1 t2 t3 t4 ⊢
  -- Waiting
  obtain ⟨g1'', g2'', g3'', g4''⟩ := gn_k r15.1 11 0 5
  have og3 := OldG.new r15.1 11 0 5
  obtain ⟨G18, hG18⟩ : ∃ G, G = rhgn r15.1 11 0 5 := ⟨_, rfl⟩
  rw [← hG18] at g1'' g2'' g3'' g4'' og3 ⊢
  have oD := oC.trans og3
  have eS17 : M17.1 S 0 = J (ways R H) := by rw [(t1 S (by omega)).1, e10, if_pos ⟨rfl, rfl⟩]
  rw [wp_ck_t (by rw [(oD.2 S (by omega)).1]; exact kS), wp_ck_t g1'', show (rhmn M17 (r15.1.1 + 1)).1 S 0 = J (ways R H) by rw [(mn_o M17 _ (show S ≠ r15.1.1 + 1 by omega)).1, eS17], wp_bind]
  refine (i_wait (by omega) g1'' h60).mono (fun r22 q => ?_)
  obtain ⟨c1, c2, c3, c4, c5⟩ := q
  have oE := oD.trans c3
  rw [wp_ck_t (by rw [(oE.2 S (by omega)).1]; exact kS)]
  obtain ⟨u1, u2, u3, u4⟩ := stg (f := 3) (show S ≤ r15.1.1 by omega) (by rw [g3''] at c4; exact c4)
  obtain ⟨M24, hM24⟩ : ∃ N, N = rhsr r22.2 S 3 (r15.1.1 + 1) := ⟨_, rfl⟩
  rw [← hM24] at u1 u2 u3 u4 ⊢
  -- Permits
  obtain ⟨g1', g2', g3', g4'⟩ := gn_k r22.1 3 0 2
  have og4 := OldG.new r22.1 3 0 2
  obtain ⟨G25, hG25⟩ : ∃ G, G = rhgn r22.1 3 0 2 := ⟨_, rfl⟩
  rw [← hG25] at g1' g2' g3' g4' og4 ⊢
  have oF := oE.trans og4
  have mt : ∀ k, (rhmn M24 (r22.1.1 + 1)).1 t k = M.1 t k := fun k => by
    rw [(mn_o M24 _ (show t ≠ r22.1.1 + 1 by omega)).1, (u1 t (by omega)).1, (t1 t (by omega)).1, e10, if_neg (by omega), m1.1]
  rw [wp_ck_t (by rw [(oF.2 t (by omega)).1]; exact kt), mt, mt, h0, h1, f_X2_placesFor, wp_bind, wp_some, J_mul, show (2 : Int32) = J 2 from rfl, J_mul, show (R : Int) * R = ((R * R : Nat) : Int) by push_cast; rfl, show (2 : Int) * H = ((2 * H : Nat) : Int) by omega, J_shl (R * R) (by omega), wp_ck_t g1', wp_bind]
  have hp1 : R * R ≤ 4 * 4 := Nat.mul_le_mul hR hR
  have hp2 : 2 ^ (2 * H) ≤ 2 ^ 12 := pow_le (by omega)
  have hp3 : R * R * 2 ^ (2 * H) ≤ 16 * 4096 := Nat.mul_le_mul hp1 hp2
  obtain ⟨Ln, hLn⟩ : ∃ n, R * R * 2 ^ (2 * H) = n := ⟨_, rfl⟩
  rw [hLn] at hp3 ⊢
  refine (i_perm (by omega) g1' (by omega)).mono (fun r30 q => ?_)
  obtain ⟨d1, d2, d3, d4, d5, d6, d7, d8⟩ := q
  have oH := oF.trans d3
  rw [wp_ck_t (by rw [(oH.2 S (by omega)).1]; exact kS), wp_some]
  dsimp only
  obtain ⟨v1, v2, v3, v4⟩ := stg (f := 4) (show S ≤ r22.1.1 by omega) (by rw [g3'] at d4; exact d4)
  obtain ⟨M32, hM32⟩ : ∃ N, N = rhsr r30.2 S 4 (r22.1.1 + 1) := ⟨_, rfl⟩
  rw [← hM32] at v1 v2 v3 v4 ⊢
  have htl : tln ≤ 4 * ways R H := by
    have hb1 := b0.1
    have hb4 := b0.2.2.2
    by_cases c : tc = 1
    · rw [b0', c]; omega
    · have := hb4 (tc - 1) (by omega) (by omega)
      rw [b0', show tc = tc - 1 + 1 by omega, Nat.pow_succ]; omega
  have hL9 : Ln < 900000000 := by omega
  refine ⟨tln, Ln, by omega, by omega, oH, fun x hx => ?_, ⟨(oH.2 S (by omega)).1.trans kS, ?_, ?_, ?_, ?_, ?_, ?_, ?_, ?_, ?_, ?_, ?_, h60, ⟨tc, b0, b0'⟩, hL9⟩, ?_⟩
  · have y1 := s1 x (by omega)
    have y2 := t1 x (by omega)
    have y3 := u1 x (by omega)
    have y4 := v1 x (by omega)
    refine ⟨?_, ?_, ?_⟩
    · rw [y4.1, y3.1, y2.1, ← y1.1]
      funext k; rw [e10, if_neg (by omega)]
    · rw [y4.2.1, y3.2.1, y2.2.1, e10r, y1.2.1]
    · rw [y4.2.2 (by omega), y3.2.2 (by omega), y2.2.2 (by omega), e10r, y1.2.2 (by omega)]
  · rw [v2 _ (by decide), u2 _ (by decide), t3]; omega
  · rw [v2 _ (by decide), u3]; omega
  · rw [v3]; omega
  · rw [v2 _ (by decide), u2 _ (by decide), t2 _ (by decide), e10r, s3]; omega
  · have hx : S + 1 = Γ.1 + 1 := by omega
    have pA := (((((og2.trans b3).trans og3).trans c3).trans og4).trans d3)
    rw [hx]
    refine a5.mv (fun r r1 r2 => pA.2 r (by omega)) ?_
    rw [(v1 (Γ.1 + 1) (by omega)).2.2 (by omega), (u1 (Γ.1 + 1) (by omega)).2.2 (by omega), (t1 (Γ.1 + 1) (by omega)).2.2 (by omega), e10r, s4 _ (by omega)]
  · have hx : S + 8 = r5.1.1 + 1 := by omega
    have pA := (((og3.trans c3).trans og4).trans d3)
    rw [hx]
    refine b5.mv (fun r r1 r2 => pA.2 r (by omega)) ?_
    rw [(v1 (r5.1.1 + 1) (by omega)).2.2 (by omega), (u1 (r5.1.1 + 1) (by omega)).2.2 (by omega), t4 _ (by omega)]
  · have hx : S + 14 = r15.1.1 + 1 := by omega
    have pA := og4.trans d3
    rw [hx]
    refine c5.mv (fun r r1 r2 => pA.2 r (by omega)) ?_
    rw [(v1 (r15.1.1 + 1) (by omega)).2.2 (by omega), u4 _ (by omega)]
  · rw [show S + 19 = r22.1.1 + 1 by omega]; exact d5
  · rw [show S + 19 = r22.1.1 + 1 by omega, v4 _ (by omega), d6]; omega
  · rw [show S + 20 = r22.1.1 + 1 + 1 by omega]; exact d7
  · rw [show S + 20 = r22.1.1 + 1 + 1 by omega]; exact d8
  · rw [(v1 S (by omega)).1, (u1 S (by omega)).1]; exact eS17
end
