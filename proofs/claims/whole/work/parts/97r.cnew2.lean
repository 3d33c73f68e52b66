/-! CLASS: A NEW SEARCH, WHOLE; A WIDER ONE -/
theorem SS.mv {Γ Γ' : rhG} {M M' : rhM} {v : Nat} (hv : 90 ≤ v) (h : SS Γ M v) (hg : ∀ r, v ≤ r → r ≤ v + 9 → Γ'.2.2.1 r = Γ.2.2.1 r ∧ Γ'.2.2.2 r = Γ.2.2.2 r) (hm : M'.2.2 v = M.2.2 v) : SS Γ' M' v := by
  unfold SS SX at *
  rw [xb_big hv] at *
  rw [(hg v (by omega) (by omega)).1, (hg (v + 1) (by omega) (by omega)).1, (hg (v + 1) (by omega) (by omega)).2, (hg (v + 2) (by omega) (by omega)).1, (hg (v + 2) (by omega) (by omega)).2, (hg (v + 3) (by omega) (by omega)).1, (hg (v + 3) (by omega) (by omega)).2, (hg (v + 4) (by omega) (by omega)).1, (hg (v + 4) (by omega) (by omega)).2, (hg (v + 5) (by omega) (by omega)).1, (hg (v + 5) (by omega) (by omega)).2, (hg (v + 6) (by omega) (by omega)).1, (hg (v + 6) (by omega) (by omega)).2, (hg (v + 7) (by omega) (by omega)).1, (hg (v + 7) (by omega) (by omega)).2, (hg (v + 7 + 1) (by omega) (by omega)).1, (hg (v + 7 + 1) (by omega) (by omega)).2, (hg (v + 7 + 2) (by omega) (by omega)).1, (hg (v + 7 + 2) (by omega) (by omega)).2, hm]
  exact h
theorem FSh.mv {Γ Γ' : rhG} {M M' : rhM} {v cp : Nat} (h : FSh Γ M v cp) (hg : ∀ r, v ≤ r → r ≤ v + 5 → Γ'.2.2.1 r = Γ.2.2.1 r ∧ Γ'.2.2.2 r = Γ.2.2.2 r) (hm : M'.2.2 v = M.2.2 v) : FSh Γ' M' v cp := by
  unfold FSh at *
  rw [(hg v (by omega) (by omega)).1, (hg (v + 1) (by omega) (by omega)).1, (hg (v + 1) (by omega) (by omega)).2, (hg (v + 2) (by omega) (by omega)).1, (hg (v + 2) (by omega) (by omega)).2, (hg (v + 3) (by omega) (by omega)).1, (hg (v + 3) (by omega) (by omega)).2, (hg (v + 4) (by omega) (by omega)).1, (hg (v + 4) (by omega) (by omega)).2, (hg (v + 5) (by omega) (by omega)).1, (hg (v + 5) (by omega) (by omega)).2, hm]
  exact h
theorem NSh.mv {Γ Γ' : rhG} {M M' : rhM} {v : Nat} (h : NSh Γ M v) (hg : ∀ r, v ≤ r → r ≤ v + 3 → Γ'.2.2.1 r = Γ.2.2.1 r ∧ Γ'.2.2.2 r = Γ.2.2.2 r) (hm : M'.2.2 v = M.2.2 v) : NSh Γ' M' v := by
  unfold NSh at *
  rw [(hg v (by omega) (by omega)).1, (hg (v + 1) (by omega) (by omega)).1, (hg (v + 1) (by omega) (by omega)).2, (hg (v + 2) (by omega) (by omega)).1, (hg (v + 2) (by omega) (by omega)).2, (hg (v + 3) (by omega) (by omega)).1, (hg (v + 3) (by omega) (by omega)).2, hm]
  exact h
theorem NB.mv {M M' : rhM} {n : Nat} (h : NB M n) (h0 : ∀ r, n ≤ r → r ≤ n + 3 → M'.1 r = M.1 r) : NB M' n := by
  obtain ⟨R, H, hR, hH, h⟩ := h
  refine ⟨R, H, hR, hH, ?_⟩
  unfold NT NTu NTs NTr NTz at *
  rw [h0 n (by omega) (by omega), h0 (n + 1) (by omega) (by omega), h0 (n + 2) (by omega) (by omega), h0 (n + 3) (by omega) (by omega)]; exact h
theorem SSh.mv {Γ Γ' : rhG} {M M' : rhM} {S F cp Ln : Nat} (h : SSh Γ M S F cp Ln) (hg : ∀ r, (S ≤ r ∧ r ≤ S + 22) ∨ (F ≤ r ∧ r ≤ F + 5) → Γ'.2.2.1 r = Γ.2.2.1 r ∧ Γ'.2.2.2 r = Γ.2.2.2 r) (hm : ∀ r, (S ≤ r ∧ r ≤ S + 22) ∨ (F ≤ r ∧ r ≤ F + 5) → M'.2.2 r = M.2.2 r) : SSh Γ' M' S F cp Ln := by
  obtain ⟨h1, ⟨h2, h3, h4, h5⟩, h6, h7, h8, ⟨h9, h10, h11, h12⟩, h13, h14, h15, h16⟩ := h
  have e := hm S (by omega)
  exact ⟨(hg S (by omega)).1.trans h1, ⟨by rw [e]; exact h2, by rw [e]; exact h3, by rw [e]; exact h4, by rw [e]; exact h5⟩, h6.mv (fun r a b => hg r (by omega)) (hm _ (by omega)), h7.mv (by omega) (fun r a b => hg r (by omega)) (hm _ (by omega)), h8.mv (fun r a b => hg r (by omega)) (hm _ (by omega)),
    ⟨(hg (S + 11) (by omega)).1.trans h9, by rw [hm (S + 11) (by omega)]; exact h10, (hg (S + 12) (by omega)).1.trans h11, (hg (S + 12) (by omega)).2.trans h12⟩, h13, h14, h15, h16⟩
section
variable {Γ : rhG} {M : rhM}
theorem stg {M1 : rhM} {S f : Nat} (hS : S ≤ Γ.1) (h : ∀ r, r ≤ Γ.1 → M1.1 r = (rhmn M (Γ.1 + 1)).1 r ∧ M1.2.1 r = (rhmn M (Γ.1 + 1)).2.1 r ∧ M1.2.2 r = (rhmn M (Γ.1 + 1)).2.2 r) : OldM Γ.1 S M (rhsr M1 S f (Γ.1 + 1)) ∧ (∀ k, k ≠ f → (rhsr M1 S f (Γ.1 + 1)).2.2 S k = M.2.2 S k) ∧ (rhsr M1 S f (Γ.1 + 1)).2.2 S f = Γ.1 + 1 ∧ ∀ r, r ≠ S → (rhsr M1 S f (Γ.1 + 1)).2.2 r = M1.2.2 r := by
  refine ⟨fun r hr => ?_, fun k hk => ?_, sr_eq _ _ _ _, fun r hr => sr_o _ _ _ _ hr⟩
  · have a := h r (by omega)
    have b := mn_o M (Γ.1 + 1) (show r ≠ Γ.1 + 1 by omega)
    refine ⟨a.1.trans b.1, a.2.1.trans b.2.1, fun hne => ?_⟩
    rw [sr_o _ _ _ _ hne, a.2.2, b.2.2]
  · have a := h S (by omega)
    have b := mn_o M (Γ.1 + 1) (show S ≠ Γ.1 + 1 by omega)
    rw [sr_ne (by omega), a.2.2, b.2.2]
theorem OldM.stg {g : Nat} {M1 N : rhM} (h : OldM (g + 1) (g + 1) N M1) : ∀ r, r ≤ g → M1.1 r = N.1 r ∧ M1.2.1 r = N.2.1 r ∧ M1.2.2 r = N.2.2 r := fun r hr => by
  have a := h r (by omega)
  exact ⟨a.1, a.2.1, a.2.2 (by omega)⟩
theorem i_search {S : Nat} (hg : 183 ≤ Γ.1) (hS : S = Γ.1) (kS : Γ.2.2.1 S = 6) : wp (f_X5_init Γ M S) (fun r => r.1.1 = Γ.1 + 22 ∧ r.1.2.1 = Γ.2.1 + 10516 ∧ OldG Γ r.1 ∧ (∀ x, x < S → r.2.1 x = M.1 x ∧ r.2.2.1 x = M.2.1 x ∧ r.2.2.2 x = M.2.2 x) ∧ SSh r.1 r.2 S (S + 1) 0 4096 ∧ r.2.1 (S + 1) 0 = J ((0 : Nat) : Int) ∧ NB r.2 (S + 7)) := by
  rw [f_X5_init, wp_ck_t kS]
  dsimp only
  -- Found
  rw [nu_big (show 183 ≤ Γ.1 + 1 by omega)]
  obtain ⟨g1, g2, g3, g4⟩ := gn_k (show 182 ≤ Γ.1 by omega) 1 0 7
  have og1 := OldG.new (show 182 ≤ Γ.1 by omega) 1 0 7
  obtain ⟨G2, hG2⟩ : ∃ G, G = rhgn Γ 1 0 7 := ⟨_, rfl⟩
  rw [← hG2] at g1 g2 g3 g4 og1 ⊢
  rw [wp_ck_t g1, wp_bind, show (0 : Int32) = J ((0 : Nat) : Int) from rfl]
  refine (i_found (cp := 0) (by omega) (by omega) g1 (by omega)).mono (fun r5 q => ?_)
  obtain ⟨a1, a2, a3, a4, a5, a6⟩ := q
  have oA := og1.trans a3
  rw [wp_ck_t (by rw [(oA.2 S (by omega)).1]; exact kS)]
  obtain ⟨s1, s2, s3, s4⟩ := stg (f := 1) (show S ≤ Γ.1 by omega) (fun r hr => a4 r (by omega))
  have i7 : (rhsr r5.2 S 1 (Γ.1 + 1)).1 = r5.2.1 := rfl
  obtain ⟨M7, hM7⟩ : ∃ N, N = rhsr r5.2 S 1 (Γ.1 + 1) := ⟨_, rfl⟩
  rw [← hM7] at s1 s2 s3 s4 i7 ⊢
  -- Numbers
  rw [nu_big (show 183 ≤ r5.1.1 + 1 by omega)]
  obtain ⟨g1', g2', g3', g4'⟩ := gn_k (show 182 ≤ r5.1.1 by omega) 11 0 5
  have og2 := OldG.new (show 182 ≤ r5.1.1 by omega) 11 0 5
  obtain ⟨G8, hG8⟩ : ∃ G, G = rhgn r5.1 11 0 5 := ⟨_, rfl⟩
  rw [← hG8] at g1' g2' g3' g4' og2 ⊢
  have oB := oA.trans og2
  rw [wp_ck_t g1', wp_bind]
  refine (i_num (by omega) (by omega) g1' (fun k => mn_z _ _ _)).mono (fun r11 q => ?_)
  obtain ⟨b1, b2, b3, b4, b5, b6⟩ := q
  have oC := oB.trans b3
  rw [wp_ck_t (by rw [(oC.2 S (by omega)).1]; exact kS)]
  obtain ⟨t1, t2, t3, t4⟩ := stg (f := 2) (show S ≤ r5.1.1 by omega) (OldM.stg (by rw [g3'] at b4; exact b4))
  have i13 : (rhsr r11.2 S 2 (r5.1.1 + 1)).1 = r11.2.1 := rfl
  obtain ⟨M13, hM13⟩ : ∃ N, N = rhsr r11.2 S 2 (r5.1.1 + 1) := ⟨_, rfl⟩
  rw [← hM13] at t1 t2 t3 t4 i13 ⊢
  -- Permits
  rw [nu_big (show 183 ≤ r11.1.1 + 1 by omega)]
  obtain ⟨g1'', g2'', g3'', g4''⟩ := gn_k (show 182 ≤ r11.1.1 by omega) 3 0 2
  have og3 := OldG.new (show 182 ≤ r11.1.1 by omega) 3 0 2
  obtain ⟨G14, hG14⟩ : ∃ G, G = rhgn r11.1 3 0 2 := ⟨_, rfl⟩
  rw [← hG14] at g1'' g2'' g3'' g4'' og3 ⊢
  have oD := oC.trans og3
  rw [f_X2_placesFor, wp_bind, wp_some, wp_ck_t g1'', show ((4 : Int32) * 4) <<< ((2 * 6) &&& 31) = 65536 by decide, wp_bind]
  refine (i_perm (by omega) (by omega) g1'').mono (fun r18 q => ?_)
  obtain ⟨c1, c2, c3, c4, c5, c6, c7, c8⟩ := q
  have oE := oD.trans c3
  rw [wp_ck_t (by rw [(oE.2 S (by omega)).1]; exact kS)]
  obtain ⟨u1, u2, u3, u4⟩ := stg (f := 3) (show S ≤ r11.1.1 by omega) (OldM.stg (by rw [g3''] at c4; exact c4))
  have i20 : (rhsr r18.2 S 3 (r11.1.1 + 1)).1 = r18.2.1 := rfl
  obtain ⟨M20, hM20⟩ : ∃ N, N = rhsr r18.2 S 3 (r11.1.1 + 1) := ⟨_, rfl⟩
  rw [← hM20] at u1 u2 u3 u4 i20 ⊢
  -- Stand
  rw [nu_big (show 183 ≤ r18.1.1 + 1 by omega)]
  obtain ⟨k1, k2, k3, k4⟩ := gn_k (show 182 ≤ r18.1.1 by omega) 8 0 12
  have og4 := OldG.new (show 182 ≤ r18.1.1 by omega) 8 0 12
  obtain ⟨G21, hG21⟩ : ∃ G, G = rhgn r18.1 8 0 12 := ⟨_, rfl⟩
  rw [← hG21] at k1 k2 k3 k4 og4 ⊢
  have oF := oE.trans og4
  rw [wp_ck_t k1, wp_bind]
  refine (i_stand (by omega) (by omega) (by omega) k1).mono (fun r24 q => ?_)
  obtain ⟨d1, d2, d3, d4, d5⟩ := q
  have oH := oF.trans d3
  rw [wp_ck_t (by rw [(oH.2 S (by omega)).1]; exact kS), wp_some]
  dsimp only
  obtain ⟨v1, v2, v3, v4⟩ := stg (f := 4) (show S ≤ r18.1.1 by omega) (OldM.stg (by rw [k3] at d4; exact d4))
  obtain ⟨M26, hM26⟩ : ∃ N, N = rhsr r24.2 S 4 (r18.1.1 + 1) := ⟨_, rfl⟩
  rw [← hM26] at v1 v2 v3 v4 ⊢
  have eN : ∀ r, r5.1.1 + 1 ≤ r → r ≤ r5.1.1 + 1 + 3 → M26.1 r = r11.2.1 r := fun r r1 r2 => by
    rw [(v1 r (by omega)).1, (u1 r (by omega)).1, i13]
  refine ⟨by omega, by omega, oH, fun x hx => ?_, ⟨(oH.2 S (by omega)).1.trans kS, ⟨?_, ?_, ?_, ?_⟩, ?_, ?_, ?_, ⟨?_, ?_, ?_, ?_⟩, Or.inl rfl, by omega, by omega, by omega⟩, ?_, ?_⟩
  · have y1 := s1 x (by omega)
    have y2 := t1 x (by omega)
    have y3 := u1 x (by omega)
    have y4 := v1 x (by omega)
    exact ⟨by rw [y4.1, y3.1, y2.1, y1.1], by rw [y4.2.1, y3.2.1, y2.2.1, y1.2.1], by rw [y4.2.2 (by omega), y3.2.2 (by omega), y2.2.2 (by omega), y1.2.2 (by omega)]⟩
  · rw [v2 _ (by decide), u2 _ (by decide), t2 _ (by decide), s3]; omega
  · rw [v2 _ (by decide), u2 _ (by decide), t3]; omega
  · rw [v2 _ (by decide), u3]; omega
  · rw [v3]; omega
  · have hx : S + 7 = r5.1.1 + 1 := by omega
    have pA := ((og3.trans c3).trans og4).trans d3
    rw [hx]
    refine b5.mv (fun r r1 r2 => pA.2 r (by omega)) ?_
    rw [(v1 (r5.1.1 + 1) (by omega)).2.2 (by omega), (u1 (r5.1.1 + 1) (by omega)).2.2 (by omega), t4 _ (by omega)]
  · have hx : S + 13 = r18.1.1 + 1 := by omega
    rw [hx]
    refine d5.mv (by omega) (fun r r1 r2 => ⟨rfl, rfl⟩) ?_
    rw [v4 _ (by omega)]
  · have hx : S + 1 = Γ.1 + 1 := by omega
    have pA := ((((og2.trans b3).trans og3).trans c3).trans og4).trans d3
    rw [hx]
    refine a5.mv (fun r r1 r2 => pA.2 r (by omega)) ?_
    rw [(v1 (Γ.1 + 1) (by omega)).2.2 (by omega), (u1 (Γ.1 + 1) (by omega)).2.2 (by omega), (t1 (Γ.1 + 1) (by omega)).2.2 (by omega), s4 _ (by omega)]
  · have pA := og4.trans d3
    rw [show S + 11 = r11.1.1 + 1 by omega, (pA.2 _ (by omega)).1]; exact c5
  · rw [show S + 11 = r11.1.1 + 1 by omega, (v1 _ (by omega)).2.2 (by omega), u4 _ (by omega), c6]; omega
  · have pA := og4.trans d3
    rw [show S + 12 = r11.1.1 + 1 + 1 by omega, (pA.2 _ (by omega)).1]; exact c7
  · have pA := og4.trans d3
    rw [show S + 12 = r11.1.1 + 1 + 1 by omega, (pA.2 _ (by omega)).2]; exact c8
  · rw [show S + 1 = Γ.1 + 1 by omega, (v1 (Γ.1 + 1) (by omega)).1, (u1 (Γ.1 + 1) (by omega)).1, (t1 (Γ.1 + 1) (by omega)).1, i7]; exact a6
  · have hx : S + 7 = r5.1.1 + 1 := by omega
    rw [hx]
    exact NB.mv ⟨0, 0, by omega, by omega, b6⟩ eN
theorem c_widenF {S F cp Ln w : Nat} (hg : 182 ≤ Γ.1) (hS : SSh Γ M S F cp Ln) (hSg : S + 22 ≤ Γ.1) (hF0 : M.1 F 0 = J cp) (hw : w ≤ 60480) (hc : cp < w) : wp (f_X5_widen Γ M S (J w)) (fun r => r.1.1 = Γ.1 + 6 ∧ r.1.2.1 = Γ.2.1 + 2055 + 3 * w ∧ OldG Γ r.1 ∧ (∀ x, x ≤ Γ.1 → r.2.1 x = M.1 x ∧ r.2.2.1 x = M.2.1 x ∧ ∀ k, ¬ (x = S ∧ k = 1) → r.2.2.2 x k = M.2.2 x k) ∧ SSh r.1 r.2 S (Γ.1 + 1) w Ln ∧ r.2.1 (Γ.1 + 1) 0 = J w) := by
  obtain ⟨h1, ⟨h2, h3, h4, h5⟩, h6, h7, h8, ⟨h9, h10, h11, h12⟩, h13, h14, h15, h16⟩ := hS
  rw [f_X5_widen, wp_ck_t h1, h2, wp_ck_t h8.1, hF0, wp_ite_t (by rw [J_lt (by omega) (by omega) (by omega) (by omega)]; omega)]
  dsimp only
  rw [nu_big (show 183 ≤ Γ.1 + 1 by omega)]
  obtain ⟨g1, g2, g3, g4⟩ := gn_k hg 1 0 7
  have og1 := OldG.new hg 1 0 7
  obtain ⟨G2, hG2⟩ : ∃ G, G = rhgn Γ 1 0 7 := ⟨_, rfl⟩
  rw [← hG2] at g1 g2 g3 g4 og1 ⊢
  rw [wp_ck_t g1, wp_bind]
  refine (i_found (by omega) (by omega) g1 hw).mono (fun r5 q => ?_)
  obtain ⟨a1, a2, a3, a4, a5, a6⟩ := q
  have oA := og1.trans a3
  rw [wp_ck_t (by rw [(oA.2 S (by omega)).1]; exact h1), wp_some]
  obtain ⟨s1, s2, s3, s4⟩ := stg (f := 1) (show S ≤ Γ.1 by omega) (fun r hr => a4 r (by omega))
  have i7 : (rhsr r5.2 S 1 (Γ.1 + 1)).1 = r5.2.1 := rfl
  obtain ⟨M7, hM7⟩ : ∃ N, N = rhsr r5.2 S 1 (Γ.1 + 1) := ⟨_, rfl⟩
  rw [← hM7] at s1 s2 s3 s4 i7 ⊢
  have ro : ∀ x, x ≤ Γ.1 → x ≠ S → M7.2.2 x = M.2.2 x := fun x hx hne => (s1 x hx).2.2 hne
  refine ⟨by dsimp only; omega, by dsimp only; omega, oA, fun x hx => ⟨(s1 x hx).1, (s1 x hx).2.1, fun k hk => ?_⟩, ⟨(oA.2 S (by omega)).1.trans h1, ⟨s3, by rw [s2 _ (by decide)]; exact h3, by rw [s2 _ (by decide)]; exact h4, by rw [s2 _ (by decide)]; exact h5⟩, h6.mv (fun r a b => oA.2 r (by omega)) (ro _ (by omega) (by omega)), h7.mv (by omega) (fun r a b => oA.2 r (by omega)) (ro _ (by omega) (by omega)), a5.mv (fun r _ _ => ⟨rfl, rfl⟩) (s4 _ (by omega)), ⟨(oA.2 (S + 11) (by omega)).1.trans h9, by rw [ro (S + 11) (by omega) (by omega)]; exact h10, (oA.2 (S + 12) (by omega)).1.trans h11, (oA.2 (S + 12) (by omega)).2.trans h12⟩, Or.inr (by omega), h14, hw, h16⟩, by rw [i7]; exact a6⟩
  by_cases e : x = S
  · rw [e]; exact s2 k (fun hk2 => hk ⟨e, hk2⟩)
  · rw [(s1 x hx).2.2 e]
theorem c_widenF_no {S F cp Ln w : Nat} (hS : SSh Γ M S F cp Ln) (hF0 : M.1 F 0 = J cp) (hw : w ≤ 60480) (hc : w ≤ cp) : f_X5_widen Γ M S (J w) = some (Γ, M) := by
  have h15 := hS.2.2.2.2.2.2.2.2.1
  rw [f_X5_widen, rhck_t hS.1, hS.2.1.1, rhck_t hS.2.2.2.2.1.1, hF0, if_neg (by rw [J_lt (by omega) (by omega) (by omega) (by omega)]; omega)]
end
