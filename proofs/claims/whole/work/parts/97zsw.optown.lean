/-- the last call: town -/
theorem op_town (Γ : rhG) (M : rhM) (h : REL Γ M) : wp (f_X11_town Γ M 1) (fun x => wp (f_X12_town Γ x.2 102) (fun y => x.1 = y.1 ∧ REL Γ y.2)) := by
  obtain ⟨T, L, bs, tm, gl, ly, bn, tl, bx, sg, fk, fp, t, t', hG, hP, hc, hr⟩ := h
  obtain ⟨⟨hw, hRH, hL2⟩, ⟨pb1, pb2⟩, ptm, ⟨pg1, pg2⟩, ⟨pB, pBl⟩, ⟨ptl1, ptl2⟩, pbx, pS, pfk, pfp⟩ := id hP
  obtain ⟨hC, c1, c2, c3, c4, c5, c6, c7, c9, c10, c11, c13, c14, cd⟩ := hc
  obtain ⟨hR, r1, r2, r3, r4, r5, r6, r7, r8, r9, r10, r11⟩ := hr
  have hfp : rdP bs ≤ 1600 := Nat.le_trans (ok_read (bs := bs)).2 pb1
  have pnil : ([] : List Int32).length ≤ 1600 ∧ ∀ b, b ∈ ([] : List Int32) → -128 ≤ b.toInt ∧ b.toInt < 128 := ⟨by decide, fun b hb => by cases hb⟩
  refine (c_town hG hC c3 c1 pb1 pb2 c14 cd).mono (fun x q => ?_)
  obtain ⟨q0, kA, kc, n1, n2, qb, qg⟩ := q
  refine (r_town hG (hR.kc kc) (r1.kc kc) (r3.kc kc) hw pb1 pb2).mono (fun y p => ?_)
  obtain ⟨kM, kr, m1, m2, pb, pg⟩ := p
  by_cases g : rdK bs = 0
  · obtain ⟨hPW, e1, g3, g4, g5, g6, g7, g9, g10, g13, gd⟩ := qg g
    obtain ⟨e2, s3, s4, s5, s6, s7, s8, s9, s10⟩ := pg g
    obtain ⟨w1, w2, w3⟩ := PW_T hPW
    refine ⟨by rw [e1, e2], bT (read bs).2, fst (bT (read bs).2), [], tm, [], [], [], [], (fun _ => none), [], rdK bs, rdP bs, t', t, hG, ⟨⟨w1, w2, w3⟩, pnil, ptm, ⟨List.nodup_nil, fun h hh => (by cases hh)⟩, ⟨rfl, by decide⟩, ⟨by decide, fun a ha => (by cases ha)⟩, fun k x h => (by cases h), ?_, q0, hfp⟩, ⟨(hC.kp kA (by decide)).kr kr, n1.kr kr, n2.kr kr, g3.kr kr, g4.kr kr, g5.kr kr, g6.kr kr, g7.kr kr, g9.kr kr, g10.kr kr, (c11.kp kA (by decide)).kr kr, g13.kr kr, (c14.kp kA (by decide)).kr kr, gd.kr kr⟩, ⟨(hR.kc kc).kp kM (by decide), m1, m2, s3, s4, s5, s6, s7, s8, s9, s10, (r11.kc kc).kp kM (by decide)⟩⟩
    exact ⟨by decide, fun s hs => by cases hs⟩
  · obtain ⟨e1, k, g3⟩ := qb g
    obtain ⟨e2, k', s3⟩ := pb g
    refine ⟨by rw [e1, e2], T, L, [], tm, gl, ly, bn, tl, bx, sg, rdK bs, rdP bs, t, t', hG, ⟨⟨hw, hRH, hL2⟩, pnil, ptm, ⟨pg1, pg2⟩, ⟨pB, pBl⟩, ⟨ptl1, ptl2⟩, pbx, pS, q0, hfp⟩, ⟨(hC.kp k (by decide)).kr kr, n1.kr kr, n2.kr kr, g3.kr kr, (c4.kp k (by decide)).kr kr, (c5.kp k (by decide)).kr kr, (c6.kp k (by decide)).kr kr, (c7.kp k (by decide)).kr kr, (c9.kp k (by decide)).kr kr, (c10.kp k (by decide)).kr kr, (c11.kp k (by decide)).kr kr, (c13.kp k (by decide)).kr kr, (c14.kp k (by decide)).kr kr, (cd.kp k (by decide) (by decide)).kr kr⟩, ⟨(hR.kc kc).kp k' (by decide), m1, m2, s3, (r4.kc kc).kp k' (by decide), (r5.kc kc).kp k' (by decide), (r6.kc kc).kp k' (by decide), (r7.kc kc).kp k' (by decide), (r8.kc kc).kp k' (by decide), (r9.kc kc).kp k' (by decide), (r10.kc kc).kp k' (by decide), (r11.kc kc).kp k' (by decide)⟩⟩
