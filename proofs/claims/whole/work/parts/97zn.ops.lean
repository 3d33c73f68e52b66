/-! THE RELATION, AND THAT EVERY CALL KEEPS IT -/
def RC (Γ : rhG) (M : rhM) (T : Tn) (L : Ar) (bs : List Int32) (tm : Nat) (gl ly : List Nat) (bn : Bn) (tl : List Tr) (bx : Bx) (sg : List Si) (fk fp t t' : Nat) : Prop := CR M ∧ C1 M bs ∧ C2 M fk fp ∧ C3 M t t' T ∧ C4 M (tR T) L ∧ C5 M bn ∧ C6 M tl ∧ C7 M gl ∧ C9 M bx ∧ C10 M sg ∧ C11 M tm ∧ C13 M T sg ∧ C14 M ∧ CD Γ M ly
def RR (M : rhM) (T : Tn) (L : Ar) (bs : List Int32) (tm : Nat) (gl ly : List Nat) (bn : Bn) (tl : List Tr) (bx : Bx) (sg : List Si) (fk fp : Nat) : Prop := MR M ∧ R1 M bs ∧ R2 M fk fp ∧ R3 M T ∧ R4 M L ∧ R5 M bn ∧ R6 M tl ∧ R7 M gl ∧ R8 M ly ∧ R9 M bx ∧ R10 M sg ∧ R11 M tm
def PQ (T : Tn) (L : Ar) (bs : List Int32) (tm : Nat) (gl : List Nat) (bn : Bn) (tl : List Tr) (bx : Bx) (sg : List Si) (fk fp : Nat) : Prop :=
  (TWf T ∧ (0 < tH T → 0 < tR T) ∧ ∀ r, r < tR T → tL T r ≤ 200) ∧ (bs.length ≤ 1600 ∧ ∀ b, b ∈ bs → -128 ≤ b.toInt ∧ b.toInt < 128) ∧ tm ≤ 100000 ∧ (gl.Nodup ∧ ∀ h, h ∈ gl → h < tH T) ∧
  (BN T (fst T) bn L ∧ bn.length ≤ 300) ∧ (tl.length ≤ 12 ∧ ∀ a, a ∈ tl → a.1 < tR T ∧ a.2.2 < tR T ∧ a.1 ≠ a.2.2 ∧ 1 ≤ a.2.1 ∧ a.2.1 ≤ 8) ∧ (∀ k x, bx k = some x → BN T (fst T) x.1 x.2 ∧ x.1.length ≤ 300) ∧ SgW T sg ∧ fk ≤ 6 ∧ fp ≤ 1600
def REL (Γ : rhG) (M : rhM) : Prop := ∃ T L bs tm gl ly bn tl bx sg fk fp t t', GK Γ ∧ PQ T L bs tm gl bn tl bx sg fk fp ∧ RC Γ M T L bs tm gl ly bn tl bx sg fk fp t t' ∧ RR M T L bs tm gl ly bn tl bx sg fk fp
theorem CD.len {Γ : rhG} {M : rhM} {ly : List Nat} (h : CD Γ M ly) : ly.length ≤ 60480 ∧ Γ.1 ≤ 60000 ∧ Γ.2.1 ≤ 8922250 ∧ M.1 51 1 = J ly.length := by
  obtain ⟨c, C, cp, e, h⟩ : ∃ c C cp e, CD0 Γ M ly c C cp e := by
    obtain ⟨c, C, ⟨-, h⟩ | ⟨S, F, cp, Ln, h, -⟩⟩ := h
    · exact ⟨c, C, 0, 1, h⟩
    · exact ⟨c, C, cp, 0, h⟩
  obtain ⟨a1, a2, a3, a4, a5, a6, a7, a8, a9, a10⟩ := h
  exact ⟨a7.2, by omega, by omega, a6⟩
theorem c_lies {Γ : rhG} {M : rhM} (hG : GK Γ) (hC : CR M) {ly : List Nat} (h : CD Γ M ly) {z : Int} (z1 : -2147483648 ≤ z) (z2 : z < 2147483648) : f_X11_lies Γ M 1 (J z) = some (J (liesV ly z)) := by
  obtain ⟨c, C, cp, e, h⟩ : ∃ c C cp e, CD0 Γ M ly c C cp e := by
    obtain ⟨c, C, ⟨-, h⟩ | ⟨S, F, cp, Ln, h, -⟩⟩ := h
    · exact ⟨c, C, 0, 1, h⟩
    · exact ⟨c, C, cp, 0, h⟩
  obtain ⟨a1, a2, a3, ⟨a4, a4'⟩, a5, a6, a7, a8, a9, a10⟩ := h
  unfold liesV
  rw [f_X11_lies]
  by_cases c1 : z < 0
  · rw [if_pos (by rw [show (0 : Int32) = J 0 from rfl, J_lt (by omega) (by omega) (by omega) (by omega)]; exact c1), if_neg (by omega)]; rfl
  rw [if_neg (by rw [show (0 : Int32) = J 0 from rfl, J_lt (by omega) (by omega) (by omega) (by omega)]; exact c1), rhck_t (GKk1 hG), CR1_9 hC, rhck_t (GKk51 hG), a6]
  by_cases c2 : z < ly.length
  · obtain ⟨n, rfl⟩ : ∃ n : Nat, z = n := ⟨z.toNat, by omega⟩
    have := Sg_get a8 (i := n) (by omega)
    rw [Nat.zero_add] at this
    rw [if_pos (by rw [J_lt (by omega) (by omega) (by omega) (by omega)]; omega), a1, rhck_t a4, a4', rhck_t (by rw [J_toInt (by omega) (by omega)]; omega), J_clamp (by omega) (by omega), Int.toNat_natCast, this, if_pos (by omega)]
  · rw [if_neg (by rw [J_lt (by omega) (by omega) (by omega) (by omega)]; omega), if_neg (by omega)]; rfl
theorem BN_len : ∀ (n : Nat) (bn : Bn), (bn.drop n).length ≤ bn.length := fun n bn => by rw [List.length_drop]; omega
section
variable {Γ : rhG} {M : rhM} {T : Tn} {L : Ar} {bs : List Int32} {tm : Nat} {gl ly : List Nat} {bn : Bn} {tl : List Tr} {bx : Bx} {sg : List Si} {fk fp t t' : Nat}

theorem op_feed (hG : GK Γ) (hP : PQ T L bs tm gl bn tl bx sg fk fp) (hc : RC Γ M T L bs tm gl ly bn tl bx sg fk fp t t') (hr : RR M T L bs tm gl ly bn tl bx sg fk fp) (a b c d e : Int32) : wp (f_X11_feed Γ M 1 a b c d e) (fun x => wp (f_X12_feed Γ x.2 102 a b c d e) (fun y => x.1 = y.1 ∧ REL Γ y.2)) := by
  obtain ⟨⟨hw, hRH, hL2⟩, ⟨pb1, pb2⟩, ptm, ⟨pg1, pg2⟩, ⟨pB, pBl⟩, ⟨ptl1, ptl2⟩, pbx, pS, pfk, pfp⟩ := id hP
  obtain ⟨hC, c1, c2, c3, c4, c5, c6, c7, c9, c10, c11, c13, c14, cd⟩ := hc
  obtain ⟨hR, r1, r2, r3, r4, r5, r6, r7, r8, r9, r10, r11⟩ := hr
  have wL := BN_WA hw pB
  have pb : (fedL bs a b c d e).length ≤ 1600 ∧ ∀ z, z ∈ fedL bs a b c d e → -128 ≤ z.toInt ∧ z.toInt < 128 := by
    have h4 : ∀ x z, z ∈ by4 x → -128 ≤ z.toInt ∧ z.toInt < 128 := fun x z hz => by
      unfold by4 at hz
      simp only [List.mem_cons, List.not_mem_nil, or_false] at hz
      rcases hz with h | h | h | h <;> (rw [h]; exact by1_b _ _)
    unfold fedL
    split
    · exact ⟨pb1, pb2⟩
    · refine ⟨by simp only [List.length_append, by4_len]; omega, fun z hz => ?_⟩
      simp only [List.mem_append] at hz
      rcases hz with ((((h | h) | h) | h) | h) | h
      · exact pb2 z h
      · exact h4 _ z h
      · exact h4 _ z h
      · exact h4 _ z h
      · exact h4 _ z h
      · exact h4 _ z h
  refine (c_feed hG hC c1 pb1 a b c d e).mono (fun x q => ?_)
  obtain ⟨q1, k, kc, n1⟩ := q
  refine (r_feed hG (hR.kc kc) (r1.kc kc) pb1 a b c d e).mono (fun y p => ?_)
  obtain ⟨p1, k', kr, n2⟩ := p
  exact ⟨q1.trans p1.symm, T, L, fedL bs a b c d e, tm, gl, ly, bn, tl, bx, sg, fk, fp, t, t', hG, ⟨⟨hw, hRH, hL2⟩, pb, ptm, ⟨pg1, pg2⟩, ⟨pB, pBl⟩, ⟨ptl1, ptl2⟩, pbx, pS, pfk, pfp⟩, ⟨(hC.kp k (by decide)).kr kr, n1.kr kr, (c2.kp k (by decide)).kr kr, (c3.kp k (by decide)).kr kr, (c4.kp k (by decide)).kr kr, (c5.kp k (by decide)).kr kr, (c6.kp k (by decide)).kr kr, (c7.kp k (by decide)).kr kr, (c9.kp k (by decide)).kr kr, (c10.kp k (by decide)).kr kr, (c11.kp k (by decide)).kr kr, (c13.kp k (by decide)).kr kr, (c14.kp k (by decide)).kr kr, (cd.kp k (by decide) (by decide)).kr kr⟩, ⟨(hR.kc kc).kp k' (by decide), n2, (r2.kc kc).kp k' (by decide), (r3.kc kc).kp k' (by decide), (r4.kc kc).kp k' (by decide), (r5.kc kc).kp k' (by decide), (r6.kc kc).kp k' (by decide), (r7.kc kc).kp k' (by decide), (r8.kc kc).kp k' (by decide), (r9.kc kc).kp k' (by decide), (r10.kc kc).kp k' (by decide), (r11.kc kc).kp k' (by decide)⟩⟩

theorem op_end (hG : GK Γ) (hP : PQ T L bs tm gl bn tl bx sg fk fp) (hc : RC Γ M T L bs tm gl ly bn tl bx sg fk fp t t') (hr : RR M T L bs tm gl ly bn tl bx sg fk fp) {z : Int} (z1 : -2147483648 ≤ z) (z2 : z < 2147483648) : wp (f_X11_end Γ M 1 (J z)) (fun x => wp (f_X12_end Γ x.2 102 (J z)) (fun y => x.1 = y.1 ∧ REL Γ y.2)) := by
  obtain ⟨⟨hw, hRH, hL2⟩, ⟨pb1, pb2⟩, ptm, ⟨pg1, pg2⟩, ⟨pB, pBl⟩, ⟨ptl1, ptl2⟩, pbx, pS, pfk, pfp⟩ := id hP
  obtain ⟨hC, c1, c2, c3, c4, c5, c6, c7, c9, c10, c11, c13, c14, cd⟩ := hc
  obtain ⟨hR, r1, r2, r3, r4, r5, r6, r7, r8, r9, r10, r11⟩ := hr
  have wL := BN_WA hw pB
  have pb : (endV bs z).2.length ≤ 1600 ∧ ∀ b, b ∈ (endV bs z).2 → -128 ≤ b.toInt ∧ b.toInt < 128 := by
    unfold endV
    split
    · exact ⟨by rw [List.length_take]; omega, fun b hb => pb2 b (List.mem_of_mem_take hb)⟩
    · exact ⟨pb1, pb2⟩
  refine (c_end hG c1 pb1 z1 z2).mono (fun x q => ?_)
  obtain ⟨q1, k, kc, n1⟩ := q
  refine (r_end hG (r1.kc kc) pb1 z1 z2).mono (fun y p => ?_)
  obtain ⟨p1, k', kr, n2⟩ := p
  exact ⟨q1.trans p1.symm, T, L, (endV bs z).2, tm, gl, ly, bn, tl, bx, sg, fk, fp, t, t', hG, ⟨⟨hw, hRH, hL2⟩, pb, ptm, ⟨pg1, pg2⟩, ⟨pB, pBl⟩, ⟨ptl1, ptl2⟩, pbx, pS, pfk, pfp⟩, ⟨(hC.kp k (by decide)).kr kr, (n1).kr kr, (c2.kp k (by decide)).kr kr, (c3.kp k (by decide)).kr kr, (c4.kp k (by decide)).kr kr, (c5.kp k (by decide)).kr kr, (c6.kp k (by decide)).kr kr, (c7.kp k (by decide)).kr kr, (c9.kp k (by decide)).kr kr, (c10.kp k (by decide)).kr kr, (c11.kp k (by decide)).kr kr, (c13.kp k (by decide)).kr kr, (c14.kp k (by decide)).kr kr, (cd.kp k (by decide) (by decide)).kr kr⟩, ⟨(hR.kc kc).kp k' (by decide), n2, (r2.kc kc).kp k' (by decide), (r3.kc kc).kp k' (by decide), (r4.kc kc).kp k' (by decide), (r5.kc kc).kp k' (by decide), (r6.kc kc).kp k' (by decide), (r7.kc kc).kp k' (by decide), (r8.kc kc).kp k' (by decide), (r9.kc kc).kp k' (by decide), (r10.kc kc).kp k' (by decide), (r11.kc kc).kp k' (by decide)⟩⟩

theorem op_fault (hG : GK Γ) (hP : PQ T L bs tm gl bn tl bx sg fk fp) (hc : RC Γ M T L bs tm gl ly bn tl bx sg fk fp t t') (hr : RR M T L bs tm gl ly bn tl bx sg fk fp) {z : Int} (z1 : -2147483648 ≤ z) (z2 : z < 2147483648) : ∃ v, f_X11_fault Γ M 1 (J z) = some v ∧ f_X12_fault Γ M 102 (J z) = some v := by
  obtain ⟨⟨hw, hRH, hL2⟩, ⟨pb1, pb2⟩, ptm, ⟨pg1, pg2⟩, ⟨pB, pBl⟩, ⟨ptl1, ptl2⟩, pbx, pS, pfk, pfp⟩ := id hP
  obtain ⟨hC, c1, c2, c3, c4, c5, c6, c7, c9, c10, c11, c13, c14, cd⟩ := hc
  obtain ⟨hR, r1, r2, r3, r4, r5, r6, r7, r8, r9, r10, r11⟩ := hr
  have wL := BN_WA hw pB
  exact ⟨_, c_fault hG hC c2 pfk z1 z2, r_fault hG r2 pfk z1 z2⟩

theorem op_on (hG : GK Γ) (hP : PQ T L bs tm gl bn tl bx sg fk fp) (hc : RC Γ M T L bs tm gl ly bn tl bx sg fk fp t t') (hr : RR M T L bs tm gl ly bn tl bx sg fk fp) {a : Int} (a1 : -2147483648 ≤ a) (a2 : a < 2147483648) {i : Int} (i1 : -2147483648 ≤ i) (i2 : i < 2147483648) : ∃ v, f_X11_on Γ M 1 (J a) (J i) = some v ∧ f_X12_on Γ M 102 (J a) (J i) = some v := by
  obtain ⟨⟨hw, hRH, hL2⟩, ⟨pb1, pb2⟩, ptm, ⟨pg1, pg2⟩, ⟨pB, pBl⟩, ⟨ptl1, ptl2⟩, pbx, pS, pfk, pfp⟩ := id hP
  obtain ⟨hC, c1, c2, c3, c4, c5, c6, c7, c9, c10, c11, c13, c14, cd⟩ := hc
  obtain ⟨hR, r1, r2, r3, r4, r5, r6, r7, r8, r9, r10, r11⟩ := hr
  have wL := BN_WA hw pB
  exact ⟨_, c_on hG hC c3 hw c4 wL a1 a2 i1 i2, r_on hG hR r3 hw r4 wL a1 a2 i1 i2⟩

theorem op_lies (hG : GK Γ) (hP : PQ T L bs tm gl bn tl bx sg fk fp) (hc : RC Γ M T L bs tm gl ly bn tl bx sg fk fp t t') (hr : RR M T L bs tm gl ly bn tl bx sg fk fp) {z : Int} (z1 : -2147483648 ≤ z) (z2 : z < 2147483648) : ∃ v, f_X11_lies Γ M 1 (J z) = some v ∧ f_X12_lies Γ M 102 (J z) = some v := by
  obtain ⟨⟨hw, hRH, hL2⟩, ⟨pb1, pb2⟩, ptm, ⟨pg1, pg2⟩, ⟨pB, pBl⟩, ⟨ptl1, ptl2⟩, pbx, pS, pfk, pfp⟩ := id hP
  obtain ⟨hC, c1, c2, c3, c4, c5, c6, c7, c9, c10, c11, c13, c14, cd⟩ := hc
  obtain ⟨hR, r1, r2, r3, r4, r5, r6, r7, r8, r9, r10, r11⟩ := hr
  have wL := BN_WA hw pB
  exact ⟨_, c_lies hG hC cd z1 z2, r_lies hG hR r8 cd.len.1 z1 z2⟩

theorem op_about (hG : GK Γ) (hP : PQ T L bs tm gl bn tl bx sg fk fp) (hc : RC Γ M T L bs tm gl ly bn tl bx sg fk fp t t') (hr : RR M T L bs tm gl ly bn tl bx sg fk fp) {z : Int} (z1 : -2147483648 ≤ z) (z2 : z < 2147483648) : ∃ v, f_X11_about Γ M 1 (J z) = some v ∧ f_X12_about Γ M 102 (J z) = some v := by
  obtain ⟨⟨hw, hRH, hL2⟩, ⟨pb1, pb2⟩, ptm, ⟨pg1, pg2⟩, ⟨pB, pBl⟩, ⟨ptl1, ptl2⟩, pbx, pS, pfk, pfp⟩ := id hP
  obtain ⟨hC, c1, c2, c3, c4, c5, c6, c7, c9, c10, c11, c13, c14, cd⟩ := hc
  obtain ⟨hR, r1, r2, r3, r4, r5, r6, r7, r8, r9, r10, r11⟩ := hr
  have wL := BN_WA hw pB
  exact ⟨_, c_about hG hC c3 hw c5 c6 c7 c10 c11 c1 cd.len.2.2.2 z1 z2, r_about hG hR r3 r5 r6 r7 r10 r11 r1 r8 z1 z2⟩

theorem op_where (hG : GK Γ) (hP : PQ T L bs tm gl bn tl bx sg fk fp) (hc : RC Γ M T L bs tm gl ly bn tl bx sg fk fp t t') (hr : RR M T L bs tm gl ly bn tl bx sg fk fp) {h : Int} (h1 : -2147483648 ≤ h) (h2 : h < 2147483648) {w : Int} (w1 : -2147483648 ≤ w) (w2 : w < 2147483648) : ∃ v, f_X11_where Γ M 1 (J h) (J w) = some v ∧ wp (f_X12_where Γ M 102 (J h) (J w)) (fun y => v = y.1 ∧ REL Γ y.2) := by
  obtain ⟨⟨hw, hRH, hL2⟩, ⟨pb1, pb2⟩, ptm, ⟨pg1, pg2⟩, ⟨pB, pBl⟩, ⟨ptl1, ptl2⟩, pbx, pS, pfk, pfp⟩ := id hP
  obtain ⟨hC, c1, c2, c3, c4, c5, c6, c7, c9, c10, c11, c13, c14, cd⟩ := hc
  obtain ⟨hR, r1, r2, r3, r4, r5, r6, r7, r8, r9, r10, r11⟩ := hr
  have wL := BN_WA hw pB
  refine ⟨_, c_where hG hC c3 hw c4 wL h1 h2 w1 w2, (r_where hG hR r3 hw r4 wL h1 h2 w1 w2).mono (fun y p => ?_)⟩
  obtain ⟨p1, k', kr⟩ := p
  exact ⟨p1.symm, T, L, bs, tm, gl, ly, bn, tl, bx, sg, fk, fp, t, t', hG, hP, ⟨hC.kr kr, c1.kr kr, c2.kr kr, c3.kr kr, c4.kr kr, c5.kr kr, c6.kr kr, c7.kr kr, c9.kr kr, c10.kr kr, c11.kr kr, c13.kr kr, c14.kr kr, cd.kr kr⟩, ⟨hR.kp k' (by decide), r1.kp k' (by decide), r2.kp k' (by decide), r3.kp k' (by decide), r4.kp k' (by decide), r5.kp k' (by decide), r6.kp k' (by decide), r7.kp k' (by decide), r8.kp k' (by decide), r9.kp k' (by decide), r10.kp k' (by decide), r11.kp k' (by decide)⟩⟩

theorem op_room (hG : GK Γ) (hP : PQ T L bs tm gl bn tl bx sg fk fp) (hc : RC Γ M T L bs tm gl ly bn tl bx sg fk fp t t') (hr : RR M T L bs tm gl ly bn tl bx sg fk fp) {z : Int} (z1 : -2147483648 ≤ z) (z2 : z < 2147483648) : ∃ v, f_X11_room Γ M 1 (J z) = some v ∧ wp (f_X12_room Γ M 102 (J z)) (fun y => v = y.1 ∧ REL Γ y.2) := by
  obtain ⟨⟨hw, hRH, hL2⟩, ⟨pb1, pb2⟩, ptm, ⟨pg1, pg2⟩, ⟨pB, pBl⟩, ⟨ptl1, ptl2⟩, pbx, pS, pfk, pfp⟩ := id hP
  obtain ⟨hC, c1, c2, c3, c4, c5, c6, c7, c9, c10, c11, c13, c14, cd⟩ := hc
  obtain ⟨hR, r1, r2, r3, r4, r5, r6, r7, r8, r9, r10, r11⟩ := hr
  have wL := BN_WA hw pB
  refine ⟨_, c_room hG hC c3 hw c4 wL z1 z2, (r_room hG hR r3 hw r4 wL z1 z2).mono (fun y p => ?_)⟩
  obtain ⟨p1, k', kr⟩ := p
  exact ⟨p1.symm, T, L, bs, tm, gl, ly, bn, tl, bx, sg, fk, fp, t, t', hG, hP, ⟨hC.kr kr, c1.kr kr, c2.kr kr, c3.kr kr, c4.kr kr, c5.kr kr, c6.kr kr, c7.kr kr, c9.kr kr, c10.kr kr, c11.kr kr, c13.kr kr, c14.kr kr, cd.kr kr⟩, ⟨hR.kp k' (by decide), r1.kp k' (by decide), r2.kp k' (by decide), r3.kp k' (by decide), r4.kp k' (by decide), r5.kp k' (by decide), r6.kp k' (by decide), r7.kp k' (by decide), r8.kp k' (by decide), r9.kp k' (by decide), r10.kp k' (by decide), r11.kp k' (by decide)⟩⟩

theorem op_worth (hG : GK Γ) (hP : PQ T L bs tm gl bn tl bx sg fk fp) (hc : RC Γ M T L bs tm gl ly bn tl bx sg fk fp t t') (hr : RR M T L bs tm gl ly bn tl bx sg fk fp)  : ∃ v, f_X11_worth Γ M 1  = some v ∧ wp (f_X12_worth Γ M 102 ) (fun y => v = y.1 ∧ REL Γ y.2) := by
  obtain ⟨⟨hw, hRH, hL2⟩, ⟨pb1, pb2⟩, ptm, ⟨pg1, pg2⟩, ⟨pB, pBl⟩, ⟨ptl1, ptl2⟩, pbx, pS, pfk, pfp⟩ := id hP
  obtain ⟨hC, c1, c2, c3, c4, c5, c6, c7, c9, c10, c11, c13, c14, cd⟩ := hc
  obtain ⟨hR, r1, r2, r3, r4, r5, r6, r7, r8, r9, r10, r11⟩ := hr
  have wL := BN_WA hw pB
  refine ⟨_, c_worth hG hC c3 hw hRH c4 wL, (r_worth hG hR r3 hw r4 wL).mono (fun y p => ?_)⟩
  obtain ⟨p1, k', kr⟩ := p
  exact ⟨p1.symm, T, L, bs, tm, gl, ly, bn, tl, bx, sg, fk, fp, t, t', hG, hP, ⟨hC.kr kr, c1.kr kr, c2.kr kr, c3.kr kr, c4.kr kr, c5.kr kr, c6.kr kr, c7.kr kr, c9.kr kr, c10.kr kr, c11.kr kr, c13.kr kr, c14.kr kr, cd.kr kr⟩, ⟨hR.kp k' (by decide), r1.kp k' (by decide), r2.kp k' (by decide), r3.kp k' (by decide), r4.kp k' (by decide), r5.kp k' (by decide), r6.kp k' (by decide), r7.kp k' (by decide), r8.kp k' (by decide), r9.kp k' (by decide), r10.kp k' (by decide), r11.kp k' (by decide)⟩⟩

theorem op_asked (hG : GK Γ) (hP : PQ T L bs tm gl bn tl bx sg fk fp) (hc : RC Γ M T L bs tm gl ly bn tl bx sg fk fp t t') (hr : RR M T L bs tm gl ly bn tl bx sg fk fp) {a : Int} (a1 : -2147483648 ≤ a) (a2 : a < 2147483648) {m : Int} (m1 : -2147483648 ≤ m) (m2 : m < 2147483648) {b : Int} (b1 : -2147483648 ≤ b) (b2 : b < 2147483648) : wp (f_X11_asked Γ M 1 (J a) (J m) (J b)) (fun x => wp (f_X12_asked Γ x.2 102 (J a) (J m) (J b)) (fun y => x.1 = y.1 ∧ REL Γ y.2)) := by
  obtain ⟨⟨hw, hRH, hL2⟩, ⟨pb1, pb2⟩, ptm, ⟨pg1, pg2⟩, ⟨pB, pBl⟩, ⟨ptl1, ptl2⟩, pbx, pS, pfk, pfp⟩ := id hP
  obtain ⟨hC, c1, c2, c3, c4, c5, c6, c7, c9, c10, c11, c13, c14, cd⟩ := hc
  obtain ⟨hR, r1, r2, r3, r4, r5, r6, r7, r8, r9, r10, r11⟩ := hr
  have wL := BN_WA hw pB
  refine (c_asked hG hC c3 hw c4 wL a1 a2 m1 m2 b1 b2).mono (fun x q => ?_)
  obtain ⟨q1, hF⟩ := q
  have k := KP_t c3.tt hF
  have kc := KC_t c3.tt hF
  refine (r_asked hG (hR.kc kc) (r3.kc kc) hw (r4.kc kc) wL a1 a2 m1 m2 b1 b2).mono (fun y p => ?_)
  obtain ⟨p1, k', kr⟩ := p
  exact ⟨q1.trans p1.symm, T, L, bs, tm, gl, ly, bn, tl, bx, sg, fk, fp, t, t', hG, hP, ⟨(hC.kp k (by decide)).kr kr, (c1.kp k (by decide)).kr kr, (c2.kp k (by decide)).kr kr, (c3.kp k (by decide)).kr kr, (c4.kp k (by decide)).kr kr, (c5.kp k (by decide)).kr kr, (c6.kp k (by decide)).kr kr, (c7.kp k (by decide)).kr kr, (c9.kp k (by decide)).kr kr, (c10.kp k (by decide)).kr kr, (c11.kp k (by decide)).kr kr, (c13.kp k (by decide)).kr kr, (c14.kp k (by decide)).kr kr, (cd.kp k (by decide) (by decide)).kr kr⟩, ⟨(hR.kc kc).kp k' (by decide), (r1.kc kc).kp k' (by decide), (r2.kc kc).kp k' (by decide), (r3.kc kc).kp k' (by decide), (r4.kc kc).kp k' (by decide), (r5.kc kc).kp k' (by decide), (r6.kc kc).kp k' (by decide), (r7.kc kc).kp k' (by decide), (r8.kc kc).kp k' (by decide), (r9.kc kc).kp k' (by decide), (r10.kc kc).kp k' (by decide), (r11.kc kc).kp k' (by decide)⟩⟩

theorem op_lawful (hG : GK Γ) (hP : PQ T L bs tm gl bn tl bx sg fk fp) (hc : RC Γ M T L bs tm gl ly bn tl bx sg fk fp t t') (hr : RR M T L bs tm gl ly bn tl bx sg fk fp) {a : Int} (a1 : -2147483648 ≤ a) (a2 : a < 2147483648) {m : Int} (m1 : -2147483648 ≤ m) (m2 : m < 2147483648) {b : Int} (b1 : -2147483648 ≤ b) (b2 : b < 2147483648) : wp (f_X11_lawful Γ M 1 (J a) (J m) (J b)) (fun x => wp (f_X12_lawful Γ x.2 102 (J a) (J m) (J b)) (fun y => x.1 = y.1 ∧ REL Γ y.2)) := by
  obtain ⟨⟨hw, hRH, hL2⟩, ⟨pb1, pb2⟩, ptm, ⟨pg1, pg2⟩, ⟨pB, pBl⟩, ⟨ptl1, ptl2⟩, pbx, pS, pfk, pfp⟩ := id hP
  obtain ⟨hC, c1, c2, c3, c4, c5, c6, c7, c9, c10, c11, c13, c14, cd⟩ := hc
  obtain ⟨hR, r1, r2, r3, r4, r5, r6, r7, r8, r9, r10, r11⟩ := hr
  have wL := BN_WA hw pB
  refine (c_lawful hG hC c3 hw c4 wL a1 a2 m1 m2 b1 b2).mono (fun x q => ?_)
  obtain ⟨q1, hF⟩ := q
  have k := KP_t c3.tt hF
  have kc := KC_t c3.tt hF
  refine (r_lawful hG (hR.kc kc) (r3.kc kc) hw (r4.kc kc) wL a1 a2 m1 m2 b1 b2).mono (fun y p => ?_)
  obtain ⟨p1, k', kr⟩ := p
  exact ⟨q1.trans p1.symm, T, L, bs, tm, gl, ly, bn, tl, bx, sg, fk, fp, t, t', hG, hP, ⟨(hC.kp k (by decide)).kr kr, (c1.kp k (by decide)).kr kr, (c2.kp k (by decide)).kr kr, (c3.kp k (by decide)).kr kr, (c4.kp k (by decide)).kr kr, (c5.kp k (by decide)).kr kr, (c6.kp k (by decide)).kr kr, (c7.kp k (by decide)).kr kr, (c9.kp k (by decide)).kr kr, (c10.kp k (by decide)).kr kr, (c11.kp k (by decide)).kr kr, (c13.kp k (by decide)).kr kr, (c14.kp k (by decide)).kr kr, (cd.kp k (by decide) (by decide)).kr kr⟩, ⟨(hR.kc kc).kp k' (by decide), (r1.kc kc).kp k' (by decide), (r2.kc kc).kp k' (by decide), (r3.kc kc).kp k' (by decide), (r4.kc kc).kp k' (by decide), (r5.kc kc).kp k' (by decide), (r6.kc kc).kp k' (by decide), (r7.kc kc).kp k' (by decide), (r8.kc kc).kp k' (by decide), (r9.kc kc).kp k' (by decide), (r10.kc kc).kp k' (by decide), (r11.kc kc).kp k' (by decide)⟩⟩

theorem op_pull (hG : GK Γ) (hP : PQ T L bs tm gl bn tl bx sg fk fp) (hc : RC Γ M T L bs tm gl ly bn tl bx sg fk fp t t') (hr : RR M T L bs tm gl ly bn tl bx sg fk fp) {a : Int} (a1 : -2147483648 ≤ a) (a2 : a < 2147483648) {m : Int} (m1 : -2147483648 ≤ m) (m2 : m < 2147483648) {b : Int} (b1 : -2147483648 ≤ b) (b2 : b < 2147483648) : wp (f_X11_pull Γ M 1 (J a) (J m) (J b)) (fun x => wp (f_X12_pull Γ x.2 102 (J a) (J m) (J b)) (fun y => x.1 = y.1 ∧ REL Γ y.2)) := by
  obtain ⟨⟨hw, hRH, hL2⟩, ⟨pb1, pb2⟩, ptm, ⟨pg1, pg2⟩, ⟨pB, pBl⟩, ⟨ptl1, ptl2⟩, pbx, pS, pfk, pfp⟩ := id hP
  obtain ⟨hC, c1, c2, c3, c4, c5, c6, c7, c9, c10, c11, c13, c14, cd⟩ := hc
  obtain ⟨hR, r1, r2, r3, r4, r5, r6, r7, r8, r9, r10, r11⟩ := hr
  have wL := BN_WA hw pB
  refine (c_pull hG hC c3 hw hRH c4 wL c5 pBl a1 a2 m1 m2 b1 b2).mono (fun x q => ?_)
  obtain ⟨k, kc, qa, qb⟩ := q
  refine (r_pull hG (hR.kc kc) (r3.kc kc) hw (r4.kc kc) wL (r5.kc kc) pBl a1 a2 m1 m2 b1 b2).mono (fun y p => ?_)
  obtain ⟨k', kr, pa, pb⟩ := p
  by_cases c : pulOK T L bn a m b
  · obtain ⟨q1, n4, n5⟩ := qa c
    obtain ⟨p1, m4, m5⟩ := pa c
    obtain ⟨f, e, q, rfl, rfl, rfl, hcB⟩ := canZ_nat (okZ_can c.1)
    have hok := okZ_of.mp c.1
    have hin := pulls_in hok
    simp only [Int.toNat_natCast] at q1 n4 n5 p1 m4 m5
    have hB' : BN T (fst T) (((f, e, q), wtA T L (f, e, q)) :: bn) (mvA L (f, e, q)) := ⟨L, pB, hin, rfl, rfl⟩
    exact ⟨q1.trans p1.symm, T, mvA L (f, e, q), bs, tm, gl, ly, ((f, e, q), wtA T L (f, e, q)) :: bn, tl, bx, sg, fk, fp, t, t', hG, ⟨⟨hw, hRH, hL2⟩, ⟨pb1, pb2⟩, ptm, ⟨pg1, pg2⟩, ⟨hB', by rw [List.length_cons]; have := c.2; omega⟩, ⟨ptl1, ptl2⟩, pbx, pS, pfk, pfp⟩, ⟨(hC.kp k (by decide)).kr kr, (c1.kp k (by decide)).kr kr, (c2.kp k (by decide)).kr kr, (c3.kp k (by decide)).kr kr, (n4).kr kr, (n5).kr kr, (c6.kp k (by decide)).kr kr, (c7.kp k (by decide)).kr kr, (c9.kp k (by decide)).kr kr, (c10.kp k (by decide)).kr kr, (c11.kp k (by decide)).kr kr, (c13.kp k (by decide)).kr kr, (c14.kp k (by decide)).kr kr, (cd.kp k (by decide) (by decide)).kr kr⟩, ⟨(hR.kc kc).kp k' (by decide), (r1.kc kc).kp k' (by decide), (r2.kc kc).kp k' (by decide), (r3.kc kc).kp k' (by decide), m4, m5, (r6.kc kc).kp k' (by decide), (r7.kc kc).kp k' (by decide), (r8.kc kc).kp k' (by decide), (r9.kc kc).kp k' (by decide), (r10.kc kc).kp k' (by decide), (r11.kc kc).kp k' (by decide)⟩⟩
  · obtain ⟨q1, n4, n5⟩ := qb c
    obtain ⟨p1, m4, m5⟩ := pb c
    exact ⟨q1.trans p1.symm, T, L, bs, tm, gl, ly, bn, tl, bx, sg, fk, fp, t, t', hG, hP, ⟨(hC.kp k (by decide)).kr kr, (c1.kp k (by decide)).kr kr, (c2.kp k (by decide)).kr kr, (c3.kp k (by decide)).kr kr, (n4).kr kr, (n5).kr kr, (c6.kp k (by decide)).kr kr, (c7.kp k (by decide)).kr kr, (c9.kp k (by decide)).kr kr, (c10.kp k (by decide)).kr kr, (c11.kp k (by decide)).kr kr, (c13.kp k (by decide)).kr kr, (c14.kp k (by decide)).kr kr, (cd.kp k (by decide) (by decide)).kr kr⟩, ⟨(hR.kc kc).kp k' (by decide), (r1.kc kc).kp k' (by decide), (r2.kc kc).kp k' (by decide), (r3.kc kc).kp k' (by decide), m4, m5, (r6.kc kc).kp k' (by decide), (r7.kc kc).kp k' (by decide), (r8.kc kc).kp k' (by decide), (r9.kc kc).kp k' (by decide), (r10.kc kc).kp k' (by decide), (r11.kc kc).kp k' (by decide)⟩⟩

theorem op_undo (hG : GK Γ) (hP : PQ T L bs tm gl bn tl bx sg fk fp) (hc : RC Γ M T L bs tm gl ly bn tl bx sg fk fp t t') (hr : RR M T L bs tm gl ly bn tl bx sg fk fp) {z : Int} (z1 : -2147483648 ≤ z) (z2 : z < 2147483648) : wp (f_X11_undo Γ M 1 (J z)) (fun x => wp (f_X12_undo Γ x.2 102 (J z)) (fun y => x.1 = y.1 ∧ REL Γ y.2)) := by
  obtain ⟨⟨hw, hRH, hL2⟩, ⟨pb1, pb2⟩, ptm, ⟨pg1, pg2⟩, ⟨pB, pBl⟩, ⟨ptl1, ptl2⟩, pbx, pS, pfk, pfp⟩ := id hP
  obtain ⟨hC, c1, c2, c3, c4, c5, c6, c7, c9, c10, c11, c13, c14, cd⟩ := hc
  obtain ⟨hR, r1, r2, r3, r4, r5, r6, r7, r8, r9, r10, r11⟩ := hr
  have wL := BN_WA hw pB
  refine (c_undo hG hC c3 hw hRH c4 c5 pB pBl z1 z2).mono (fun x q => ?_)
  obtain ⟨q1, k, kc, n4, n5⟩ := q
  refine (r_undo hG (hR.kc kc) hw (r4.kc kc) (r5.kc kc) pB pBl z1 z2).mono (fun y p => ?_)
  obtain ⟨p1, k', kr, m4, m5⟩ := p
  exact ⟨q1.trans p1.symm, T, undL (undN bn z) bn L, bs, tm, gl, ly, bn.drop (undN bn z), tl, bx, sg, fk, fp, t, t', hG, ⟨⟨hw, hRH, hL2⟩, ⟨pb1, pb2⟩, ptm, ⟨pg1, pg2⟩, ⟨BN_und hw _ pB, Nat.le_trans (BN_len _ _) pBl⟩, ⟨ptl1, ptl2⟩, pbx, pS, pfk, pfp⟩, ⟨(hC.kp k (by decide)).kr kr, (c1.kp k (by decide)).kr kr, (c2.kp k (by decide)).kr kr, (c3.kp k (by decide)).kr kr, (n4).kr kr, (n5).kr kr, (c6.kp k (by decide)).kr kr, (c7.kp k (by decide)).kr kr, (c9.kp k (by decide)).kr kr, (c10.kp k (by decide)).kr kr, (c11.kp k (by decide)).kr kr, (c13.kp k (by decide)).kr kr, (c14.kp k (by decide)).kr kr, (cd.kp k (by decide) (by decide)).kr kr⟩, ⟨(hR.kc kc).kp k' (by decide), (r1.kc kc).kp k' (by decide), (r2.kc kc).kp k' (by decide), (r3.kc kc).kp k' (by decide), m4, m5, (r6.kc kc).kp k' (by decide), (r7.kc kc).kp k' (by decide), (r8.kc kc).kp k' (by decide), (r9.kc kc).kp k' (by decide), (r10.kc kc).kp k' (by decide), (r11.kc kc).kp k' (by decide)⟩⟩

theorem op_tell (hG : GK Γ) (hP : PQ T L bs tm gl bn tl bx sg fk fp) (hc : RC Γ M T L bs tm gl ly bn tl bx sg fk fp t t') (hr : RR M T L bs tm gl ly bn tl bx sg fk fp) {a : Int} (a1 : -2147483648 ≤ a) (a2 : a < 2147483648) {m : Int} (m1 : -2147483648 ≤ m) (m2 : m < 2147483648) {b : Int} (b1 : -2147483648 ≤ b) (b2 : b < 2147483648) : wp (f_X11_tell Γ M 1 (J a) (J m) (J b)) (fun x => wp (f_X12_tell Γ x.2 102 (J a) (J m) (J b)) (fun y => x.1 = y.1 ∧ REL Γ y.2)) := by
  obtain ⟨⟨hw, hRH, hL2⟩, ⟨pb1, pb2⟩, ptm, ⟨pg1, pg2⟩, ⟨pB, pBl⟩, ⟨ptl1, ptl2⟩, pbx, pS, pfk, pfp⟩ := id hP
  obtain ⟨hC, c1, c2, c3, c4, c5, c6, c7, c9, c10, c11, c13, c14, cd⟩ := hc
  obtain ⟨hR, r1, r2, r3, r4, r5, r6, r7, r8, r9, r10, r11⟩ := hr
  have wL := BN_WA hw pB
  have ptl : (telL T tl a m b).length ≤ 12 ∧ ∀ x, x ∈ telL T tl a m b → x.1 < tR T ∧ x.2.2 < tR T ∧ x.1 ≠ x.2.2 ∧ 1 ≤ x.2.1 ∧ x.2.1 ≤ 8 := by
    unfold telL
    by_cases c : telOK T tl a m b
    · rw [pick_t c]
      unfold telOK at c
      refine ⟨by rw [List.length_append, List.length_singleton]; omega, fun x hx => ?_⟩
      rcases List.mem_append.mp hx with h | h
      · exact ptl2 x h
      · rw [List.mem_singleton] at h
        rw [h]
        dsimp only
        omega
    · rw [pick_f c]; exact ⟨ptl1, ptl2⟩
  refine (c_tell hG hC c3 hw c6 ptl1 a1 a2 m1 m2 b1 b2).mono (fun x q => ?_)
  obtain ⟨q1, k, kc, n6⟩ := q
  refine (r_tell hG (hR.kc kc) (r3.kc kc) hw (r6.kc kc) ptl1 a1 a2 m1 m2 b1 b2).mono (fun y p => ?_)
  obtain ⟨p1, k', kr, m6⟩ := p
  exact ⟨q1.trans p1.symm, T, L, bs, tm, gl, ly, bn, telL T tl a m b, bx, sg, fk, fp, t, t', hG, ⟨⟨hw, hRH, hL2⟩, ⟨pb1, pb2⟩, ptm, ⟨pg1, pg2⟩, ⟨pB, pBl⟩, ptl, pbx, pS, pfk, pfp⟩, ⟨(hC.kp k (by decide)).kr kr, (c1.kp k (by decide)).kr kr, (c2.kp k (by decide)).kr kr, (c3.kp k (by decide)).kr kr, (c4.kp k (by decide)).kr kr, (c5.kp k (by decide)).kr kr, (n6).kr kr, (c7.kp k (by decide)).kr kr, (c9.kp k (by decide)).kr kr, (c10.kp k (by decide)).kr kr, (c11.kp k (by decide)).kr kr, (c13.kp k (by decide)).kr kr, (c14.kp k (by decide)).kr kr, (cd.kp k (by decide) (by decide)).kr kr⟩, ⟨(hR.kc kc).kp k' (by decide), (r1.kc kc).kp k' (by decide), (r2.kc kc).kp k' (by decide), (r3.kc kc).kp k' (by decide), (r4.kc kc).kp k' (by decide), (r5.kc kc).kp k' (by decide), m6, (r7.kc kc).kp k' (by decide), (r8.kc kc).kp k' (by decide), (r9.kc kc).kp k' (by decide), (r10.kc kc).kp k' (by decide), (r11.kc kc).kp k' (by decide)⟩⟩

theorem op_hush (hG : GK Γ) (hP : PQ T L bs tm gl bn tl bx sg fk fp) (hc : RC Γ M T L bs tm gl ly bn tl bx sg fk fp t t') (hr : RR M T L bs tm gl ly bn tl bx sg fk fp)  : wp (f_X11_hush Γ M 1 ) (fun x => wp (f_X12_hush Γ x.2 102 ) (fun y => x.1 = y.1 ∧ REL Γ y.2)) := by
  obtain ⟨⟨hw, hRH, hL2⟩, ⟨pb1, pb2⟩, ptm, ⟨pg1, pg2⟩, ⟨pB, pBl⟩, ⟨ptl1, ptl2⟩, pbx, pS, pfk, pfp⟩ := id hP
  obtain ⟨hC, c1, c2, c3, c4, c5, c6, c7, c9, c10, c11, c13, c14, cd⟩ := hc
  obtain ⟨hR, r1, r2, r3, r4, r5, r6, r7, r8, r9, r10, r11⟩ := hr
  have wL := BN_WA hw pB
  refine (c_hush hG hC c6).mono (fun x q => ?_)
  obtain ⟨q1, k, kc, n6⟩ := q
  refine (r_hush hG (r6.kc kc)).mono (fun y p => ?_)
  obtain ⟨p1, k', kr, m6⟩ := p
  exact ⟨q1.trans p1.symm, T, L, bs, tm, gl, ly, bn, [], bx, sg, fk, fp, t, t', hG, ⟨⟨hw, hRH, hL2⟩, ⟨pb1, pb2⟩, ptm, ⟨pg1, pg2⟩, ⟨pB, pBl⟩, ⟨by rw [List.length_nil]; omega, fun x hx => (by simp at hx)⟩, pbx, pS, pfk, pfp⟩, ⟨(hC.kp k (by decide)).kr kr, (c1.kp k (by decide)).kr kr, (c2.kp k (by decide)).kr kr, (c3.kp k (by decide)).kr kr, (c4.kp k (by decide)).kr kr, (c5.kp k (by decide)).kr kr, (n6).kr kr, (c7.kp k (by decide)).kr kr, (c9.kp k (by decide)).kr kr, (c10.kp k (by decide)).kr kr, (c11.kp k (by decide)).kr kr, (c13.kp k (by decide)).kr kr, (c14.kp k (by decide)).kr kr, (cd.kp k (by decide) (by decide)).kr kr⟩, ⟨(hR.kc kc).kp k' (by decide), (r1.kc kc).kp k' (by decide), (r2.kc kc).kp k' (by decide), (r3.kc kc).kp k' (by decide), (r4.kc kc).kp k' (by decide), (r5.kc kc).kp k' (by decide), m6, (r7.kc kc).kp k' (by decide), (r8.kc kc).kp k' (by decide), (r9.kc kc).kp k' (by decide), (r10.kc kc).kp k' (by decide), (r11.kc kc).kp k' (by decide)⟩⟩

theorem op_judge (hG : GK Γ) (hP : PQ T L bs tm gl bn tl bx sg fk fp) (hc : RC Γ M T L bs tm gl ly bn tl bx sg fk fp t t') (hr : RR M T L bs tm gl ly bn tl bx sg fk fp) {z : Int} (z1 : -2147483648 ≤ z) (z2 : z < 2147483648) : wp (f_X11_judge Γ M 1 (J z)) (fun x => wp (f_X12_judge Γ x.2 102 (J z)) (fun y => x.1 = y.1 ∧ REL Γ y.2)) := by
  obtain ⟨⟨hw, hRH, hL2⟩, ⟨pb1, pb2⟩, ptm, ⟨pg1, pg2⟩, ⟨pB, pBl⟩, ⟨ptl1, ptl2⟩, pbx, pS, pfk, pfp⟩ := id hP
  obtain ⟨hC, c1, c2, c3, c4, c5, c6, c7, c9, c10, c11, c13, c14, cd⟩ := hc
  obtain ⟨hR, r1, r2, r3, r4, r5, r6, r7, r8, r9, r10, r11⟩ := hr
  have wL := BN_WA hw pB
  refine (c_judge hG hC c3 hw hRH c4 wL c6 ptl1 ptl2 z1 z2).mono (fun x q => ?_)
  obtain ⟨q1, k, kc⟩ := q
  refine (r_judge hG (hR.kc kc) (r3.kc kc) hw (r4.kc kc) wL (r6.kc kc) ptl1 ptl2 z1 z2).mono (fun y p => ?_)
  obtain ⟨p1, k', kr⟩ := p
  exact ⟨q1.trans p1.symm, T, L, bs, tm, gl, ly, bn, tl, bx, sg, fk, fp, t, t', hG, hP, ⟨(hC.kp k (by decide)).kr kr, (c1.kp k (by decide)).kr kr, (c2.kp k (by decide)).kr kr, (c3.kp k (by decide)).kr kr, (c4.kp k (by decide)).kr kr, (c5.kp k (by decide)).kr kr, (c6.kp k (by decide)).kr kr, (c7.kp k (by decide)).kr kr, (c9.kp k (by decide)).kr kr, (c10.kp k (by decide)).kr kr, (c11.kp k (by decide)).kr kr, (c13.kp k (by decide)).kr kr, (c14.kp k (by decide)).kr kr, (cd.kp k (by decide) (by decide)).kr kr⟩, ⟨(hR.kc kc).kp k' (by decide), (r1.kc kc).kp k' (by decide), (r2.kc kc).kp k' (by decide), (r3.kc kc).kp k' (by decide), (r4.kc kc).kp k' (by decide), (r5.kc kc).kp k' (by decide), (r6.kc kc).kp k' (by decide), (r7.kc kc).kp k' (by decide), (r8.kc kc).kp k' (by decide), (r9.kc kc).kp k' (by decide), (r10.kc kc).kp k' (by decide), (r11.kc kc).kp k' (by decide)⟩⟩

theorem op_goal (hG : GK Γ) (hP : PQ T L bs tm gl bn tl bx sg fk fp) (hc : RC Γ M T L bs tm gl ly bn tl bx sg fk fp t t') (hr : RR M T L bs tm gl ly bn tl bx sg fk fp) {z : Int} (z1 : -2147483648 ≤ z) (z2 : z < 2147483648) : wp (f_X11_goal Γ M 1 (J z)) (fun x => wp (f_X12_goal Γ x.2 102 (J z)) (fun y => x.1 = y.1 ∧ REL Γ y.2)) := by
  obtain ⟨⟨hw, hRH, hL2⟩, ⟨pb1, pb2⟩, ptm, ⟨pg1, pg2⟩, ⟨pB, pBl⟩, ⟨ptl1, ptl2⟩, pbx, pS, pfk, pfp⟩ := id hP
  obtain ⟨hC, c1, c2, c3, c4, c5, c6, c7, c9, c10, c11, c13, c14, cd⟩ := hc
  obtain ⟨hR, r1, r2, r3, r4, r5, r6, r7, r8, r9, r10, r11⟩ := hr
  have wL := BN_WA hw pB
  have pg : (goaL T gl z).Nodup ∧ ∀ h, h ∈ goaL T gl z → h < tH T := by
    unfold goaL
    by_cases c : goaOK T gl z
    · rw [pick_t c]
      obtain ⟨y1, y2, y3⟩ := c
      refine ⟨List.nodup_append.mpr ⟨pg1, List.nodup_cons.mpr ⟨by simp, List.nodup_nil⟩, fun a ha b hb => ?_⟩, fun h hh => ?_⟩
      · rw [List.mem_singleton] at hb
        intro e; rw [e, hb] at ha; exact y3 ha
      · rcases List.mem_append.mp hh with h2 | h2
        · exact pg2 h h2
        · rw [List.mem_singleton] at h2; omega
    · rw [pick_f c]; exact ⟨pg1, pg2⟩
  refine (c_goal hG hC c3 hw c7 pg1 pg2 z1 z2).mono (fun x q => ?_)
  obtain ⟨q1, k, kc, n7⟩ := q
  refine (r_goal hG (hR.kc kc) (r3.kc kc) hw (r7.kc kc) pg1 pg2 z1 z2).mono (fun y p => ?_)
  obtain ⟨p1, k', kr, m7⟩ := p
  exact ⟨q1.trans p1.symm, T, L, bs, tm, goaL T gl z, ly, bn, tl, bx, sg, fk, fp, t, t', hG, ⟨⟨hw, hRH, hL2⟩, ⟨pb1, pb2⟩, ptm, pg, ⟨pB, pBl⟩, ⟨ptl1, ptl2⟩, pbx, pS, pfk, pfp⟩, ⟨(hC.kp k (by decide)).kr kr, (c1.kp k (by decide)).kr kr, (c2.kp k (by decide)).kr kr, (c3.kp k (by decide)).kr kr, (c4.kp k (by decide)).kr kr, (c5.kp k (by decide)).kr kr, (c6.kp k (by decide)).kr kr, (n7).kr kr, (c9.kp k (by decide)).kr kr, (c10.kp k (by decide)).kr kr, (c11.kp k (by decide)).kr kr, (c13.kp k (by decide)).kr kr, (c14.kp k (by decide)).kr kr, (cd.kp k (by decide) (by decide)).kr kr⟩, ⟨(hR.kc kc).kp k' (by decide), (r1.kc kc).kp k' (by decide), (r2.kc kc).kp k' (by decide), (r3.kc kc).kp k' (by decide), (r4.kc kc).kp k' (by decide), (r5.kc kc).kp k' (by decide), (r6.kc kc).kp k' (by decide), m7, (r8.kc kc).kp k' (by decide), (r9.kc kc).kp k' (by decide), (r10.kc kc).kp k' (by decide), (r11.kc kc).kp k' (by decide)⟩⟩

theorem op_open (hG : GK Γ) (hP : PQ T L bs tm gl bn tl bx sg fk fp) (hc : RC Γ M T L bs tm gl ly bn tl bx sg fk fp t t') (hr : RR M T L bs tm gl ly bn tl bx sg fk fp)  : wp (f_X11_open Γ M 1 ) (fun x => wp (f_X12_open Γ x.2 102 ) (fun y => x.1 = y.1 ∧ REL Γ y.2)) := by
  obtain ⟨⟨hw, hRH, hL2⟩, ⟨pb1, pb2⟩, ptm, ⟨pg1, pg2⟩, ⟨pB, pBl⟩, ⟨ptl1, ptl2⟩, pbx, pS, pfk, pfp⟩ := id hP
  obtain ⟨hC, c1, c2, c3, c4, c5, c6, c7, c9, c10, c11, c13, c14, cd⟩ := hc
  obtain ⟨hR, r1, r2, r3, r4, r5, r6, r7, r8, r9, r10, r11⟩ := hr
  have wL := BN_WA hw pB
  refine (c_open hG c7).mono (fun x q => ?_)
  obtain ⟨q1, k, kc, n7⟩ := q
  refine (r_open hG (r7.kc kc)).mono (fun y p => ?_)
  obtain ⟨p1, k', kr, m7⟩ := p
  exact ⟨q1.trans p1.symm, T, L, bs, tm, [], ly, bn, tl, bx, sg, fk, fp, t, t', hG, ⟨⟨hw, hRH, hL2⟩, ⟨pb1, pb2⟩, ptm, ⟨List.nodup_nil, fun x hx => (by simp at hx)⟩, ⟨pB, pBl⟩, ⟨ptl1, ptl2⟩, pbx, pS, pfk, pfp⟩, ⟨(hC.kp k (by decide)).kr kr, (c1.kp k (by decide)).kr kr, (c2.kp k (by decide)).kr kr, (c3.kp k (by decide)).kr kr, (c4.kp k (by decide)).kr kr, (c5.kp k (by decide)).kr kr, (c6.kp k (by decide)).kr kr, (n7).kr kr, (c9.kp k (by decide)).kr kr, (c10.kp k (by decide)).kr kr, (c11.kp k (by decide)).kr kr, (c13.kp k (by decide)).kr kr, (c14.kp k (by decide)).kr kr, (cd.kp k (by decide) (by decide)).kr kr⟩, ⟨(hR.kc kc).kp k' (by decide), (r1.kc kc).kp k' (by decide), (r2.kc kc).kp k' (by decide), (r3.kc kc).kp k' (by decide), (r4.kc kc).kp k' (by decide), (r5.kc kc).kp k' (by decide), (r6.kc kc).kp k' (by decide), m7, (r8.kc kc).kp k' (by decide), (r9.kc kc).kp k' (by decide), (r10.kc kc).kp k' (by decide), (r11.kc kc).kp k' (by decide)⟩⟩

theorem op_later (hG : GK Γ) (hP : PQ T L bs tm gl bn tl bx sg fk fp) (hc : RC Γ M T L bs tm gl ly bn tl bx sg fk fp t t') (hr : RR M T L bs tm gl ly bn tl bx sg fk fp) {z : Int} (z1 : -2147483648 ≤ z) (z2 : z < 2147483648) : wp (f_X11_later Γ M 1 (J z)) (fun x => wp (f_X12_later Γ x.2 102 (J z)) (fun y => x.1 = y.1 ∧ REL Γ y.2)) := by
  obtain ⟨⟨hw, hRH, hL2⟩, ⟨pb1, pb2⟩, ptm, ⟨pg1, pg2⟩, ⟨pB, pBl⟩, ⟨ptl1, ptl2⟩, pbx, pS, pfk, pfp⟩ := id hP
  obtain ⟨hC, c1, c2, c3, c4, c5, c6, c7, c9, c10, c11, c13, c14, cd⟩ := hc
  obtain ⟨hR, r1, r2, r3, r4, r5, r6, r7, r8, r9, r10, r11⟩ := hr
  have wL := BN_WA hw pB
  have pt : (latV tm z).2 ≤ 100000 := by
    unfold latV
    split
    · dsimp only; omega
    · exact ptm
  refine (c_later hG c11 ptm z1 z2).mono (fun x q => ?_)
  obtain ⟨q1, k, kc, n11⟩ := q
  refine (r_later hG (r11.kc kc) ptm z1 z2).mono (fun y p => ?_)
  obtain ⟨p1, k', kr, m11⟩ := p
  exact ⟨q1.trans p1.symm, T, L, bs, (latV tm z).2, gl, ly, bn, tl, bx, sg, fk, fp, t, t', hG, ⟨⟨hw, hRH, hL2⟩, ⟨pb1, pb2⟩, pt, ⟨pg1, pg2⟩, ⟨pB, pBl⟩, ⟨ptl1, ptl2⟩, pbx, pS, pfk, pfp⟩, ⟨(hC.kp k (by decide)).kr kr, (c1.kp k (by decide)).kr kr, (c2.kp k (by decide)).kr kr, (c3.kp k (by decide)).kr kr, (c4.kp k (by decide)).kr kr, (c5.kp k (by decide)).kr kr, (c6.kp k (by decide)).kr kr, (c7.kp k (by decide)).kr kr, (c9.kp k (by decide)).kr kr, (c10.kp k (by decide)).kr kr, (n11).kr kr, (c13.kp k (by decide)).kr kr, (c14.kp k (by decide)).kr kr, (cd.kp k (by decide) (by decide)).kr kr⟩, ⟨(hR.kc kc).kp k' (by decide), (r1.kc kc).kp k' (by decide), (r2.kc kc).kp k' (by decide), (r3.kc kc).kp k' (by decide), (r4.kc kc).kp k' (by decide), (r5.kc kc).kp k' (by decide), (r6.kc kc).kp k' (by decide), (r7.kc kc).kp k' (by decide), (r8.kc kc).kp k' (by decide), (r9.kc kc).kp k' (by decide), (r10.kc kc).kp k' (by decide), m11⟩⟩

theorem op_untell (hG : GK Γ) (hP : PQ T L bs tm gl bn tl bx sg fk fp) (hc : RC Γ M T L bs tm gl ly bn tl bx sg fk fp t t') (hr : RR M T L bs tm gl ly bn tl bx sg fk fp) {z : Int} (z1 : -2147483648 ≤ z) (z2 : z < 2147483648) : wp (f_X11_untell Γ M 1 (J z)) (fun x => wp (f_X12_untell Γ x.2 102 (J z)) (fun y => x.1 = y.1 ∧ REL Γ y.2)) := by
  obtain ⟨⟨hw, hRH, hL2⟩, ⟨pb1, pb2⟩, ptm, ⟨pg1, pg2⟩, ⟨pB, pBl⟩, ⟨ptl1, ptl2⟩, pbx, pS, pfk, pfp⟩ := id hP
  obtain ⟨hC, c1, c2, c3, c4, c5, c6, c7, c9, c10, c11, c13, c14, cd⟩ := hc
  obtain ⟨hR, r1, r2, r3, r4, r5, r6, r7, r8, r9, r10, r11⟩ := hr
  have wL := BN_WA hw pB
  have hgt : ∀ (i : Nat) (s : Si), (untL sg z tm)[i]? = some s → ∃ s0, sg[i]? = some s0 ∧ s.1 = s0.1 ∧ s.2.1 = s0.2.1 ∧ s.2.2.1 = s0.2.2.1 ∧ (s.2.2.2 = s0.2.2.2 ∨ s.2.2.2 = tm) := fun i s hs => by
    unfold untL at hs
    by_cases c : untOK sg z
    · rw [pick_t c, List.getElem?_modify] at hs
      cases e : sg[i]? with
      | none => rw [e] at hs; simp at hs
      | some s0 =>
        rw [e] at hs
        by_cases ci : z.toNat = i
        · simp [ci] at hs
          exact ⟨s0, rfl, by rw [← hs]; rfl, by rw [← hs]; rfl, by rw [← hs]; rfl, Or.inr (by rw [← hs]; rfl)⟩
        · simp [ci] at hs
          exact ⟨s0, rfl, by rw [hs], by rw [hs], by rw [hs], Or.inl (by rw [hs])⟩
    · rw [pick_f c] at hs
      exact ⟨s, hs, rfl, rfl, rfl, Or.inl rfl⟩
  have hlen : (untL sg z tm).length = sg.length := by
    unfold untL
    by_cases c : untOK sg z
    · rw [pick_t c, List.length_modify]
    · rw [pick_f c]
  have hgb : ∀ (i : Nat) (s0 : Si), sg[i]? = some s0 → ∃ s, (untL sg z tm)[i]? = some s ∧ s.1 = s0.1 ∧ s.2.1 = s0.2.1 := fun i s0 hs => by
    have hi := (List.getElem?_eq_some_iff.mp hs).1
    obtain ⟨s1, y1, y2, y3, -, -⟩ := hgt i _ (List.getElem?_eq_getElem (show i < (untL sg z tm).length by omega))
    rw [hs] at y1
    rw [← Option.some.inj y1] at y2 y3
    exact ⟨_, List.getElem?_eq_getElem (show i < (untL sg z tm).length by omega), y2, y3⟩
  have pS2 : SgW T (untL sg z tm) := by
    refine ⟨by rw [hlen]; exact pS.1, fun s hs => ?_⟩
    obtain ⟨i, hi, e⟩ := List.getElem_of_mem hs
    obtain ⟨s0, y1, y2, y3, y4, y5⟩ := hgt i s (by rw [List.getElem?_eq_getElem hi, e])
    obtain ⟨x1, x2, x3, x4, x5, x6, x7⟩ := pS.2 s0 (List.mem_of_getElem? y1)
    rw [y2, y3, y4]
    exact ⟨x1, x2, x3, x4, x5, by rcases y5 with h | h <;> omega, by rcases y5 with h | h <;> omega⟩
  have hso : ∀ S d L', soS (untL sg z tm) S d L' ↔ soS sg S d L' := fun S d L' => by
    constructor
    · intro h i s0 hs b1 b2
      obtain ⟨s, y1, y2, y3⟩ := hgb i s0 hs
      have := h i s y1 b1 (by rw [y2]; exact b2)
      rw [y2, y3] at this; exact this
    · intro h i s hs b1 b2
      obtain ⟨s0, y1, y2, y3, -, -⟩ := hgt i s hs
      have := h i s0 y1 b1 (by rw [← y2]; exact b2)
      rw [y2, y3]; exact this
  have hwk : ∀ S m d L', wk T (untL sg z tm) S m d L' = wk T sg S m d L' := fun S m => by
    induction m with
    | zero =>
      intro d L'
      rw [wk, wk]
      by_cases c : soS sg S d L'
      · rw [pick_t c, pick_t ((hso S d L').mpr c)]
      · rw [pick_f c, pick_f (fun h => c ((hso S d L').mp h))]
    | succ m ih =>
      intro d L'
      rw [wk, wk]
      have e : (fun a => wk T (untL sg z tm) S m (d + 1) (mvA L' a)) = fun a => wk T sg S m (d + 1) (mvA L' a) := by funext a; exact ih _ _
      rw [e]
      by_cases c : soS sg S d L'
      · rw [pick_t c, pick_t ((hso S d L').mpr c)]
      · rw [pick_f c, pick_f (fun h => c ((hso S d L').mp h))]
  have n13 : C13 M T (untL sg z tm) := fun n hn => by
    rcases c13 n hn with h | ⟨S, s1, s2, s3, s4⟩
    · exact Or.inl h
    · exact Or.inr ⟨S, by rw [hlen]; exact s1, s2, by rw [hwk]; exact s3, fun r hr => by rw [hwk]; exact s4 r hr⟩
  refine (c_untell hG hC c10 pS.1 c11 (fun s hs => ⟨(pS.2 s hs).2.2.2.2.2.1, (pS.2 s hs).2.2.2.2.2.2⟩) z1 z2).mono (fun x q => ?_)
  obtain ⟨q1, k, kc, n10⟩ := q
  refine (r_untell hG (hR.kc kc) (r10.kc kc) pS.1 (r11.kc kc) (fun s hs => ⟨(pS.2 s hs).2.2.2.2.2.1, (pS.2 s hs).2.2.2.2.2.2⟩) z1 z2).mono (fun y p => ?_)
  obtain ⟨p1, k', kr, m10⟩ := p
  exact ⟨q1.trans p1.symm, T, L, bs, tm, gl, ly, bn, tl, bx, untL sg z tm, fk, fp, t, t', hG, ⟨⟨hw, hRH, hL2⟩, ⟨pb1, pb2⟩, ptm, ⟨pg1, pg2⟩, ⟨pB, pBl⟩, ⟨ptl1, ptl2⟩, pbx, pS2, pfk, pfp⟩, ⟨(hC.kp k (by decide)).kr kr, (c1.kp k (by decide)).kr kr, (c2.kp k (by decide)).kr kr, (c3.kp k (by decide)).kr kr, (c4.kp k (by decide)).kr kr, (c5.kp k (by decide)).kr kr, (c6.kp k (by decide)).kr kr, (c7.kp k (by decide)).kr kr, (c9.kp k (by decide)).kr kr, (n10).kr kr, (c11.kp k (by decide)).kr kr, (n13.kp k (by decide)).kr kr, (c14.kp k (by decide)).kr kr, (cd.kp k (by decide) (by decide)).kr kr⟩, ⟨(hR.kc kc).kp k' (by decide), (r1.kc kc).kp k' (by decide), (r2.kc kc).kp k' (by decide), (r3.kc kc).kp k' (by decide), (r4.kc kc).kp k' (by decide), (r5.kc kc).kp k' (by decide), (r6.kc kc).kp k' (by decide), (r7.kc kc).kp k' (by decide), (r8.kc kc).kp k' (by decide), (r9.kc kc).kp k' (by decide), m10, (r11.kc kc).kp k' (by decide)⟩⟩

theorem op_sight (hG : GK Γ) (hP : PQ T L bs tm gl bn tl bx sg fk fp) (hc : RC Γ M T L bs tm gl ly bn tl bx sg fk fp t t') (hr : RR M T L bs tm gl ly bn tl bx sg fk fp) {n : Int} (n1 : -2147483648 ≤ n) (n2 : n < 2147483648) {h : Int} (h1 : -2147483648 ≤ h) (h2 : h < 2147483648) {r : Int} (r1 : -2147483648 ≤ r) (r2 : r < 2147483648) {v : Nat} (hv : v < 2) : wp (f_X11_sight Γ M 1 (J n) (J h) (J r) (J v)) (fun x => wp (f_X12_sight Γ x.2 102 (J n) (J h) (J r) (J v)) (fun y => x.1 = y.1 ∧ REL Γ y.2)) := by
  obtain ⟨⟨hw, hRH, hL2⟩, ⟨pb1, pb2⟩, ptm, ⟨pg1, pg2⟩, ⟨pB, pBl⟩, ⟨ptl1, ptl2⟩, pbx, pS, pfk, pfp⟩ := id hP
  obtain ⟨hC, c1, c2, c3, c4, c5, c6, c7, c9, c10, c11, c13, c14, cd⟩ := hc
  obtain ⟨hR, r1x, r2x, r3, r4, r5, r6, r7, r8, r9, r10, r11⟩ := hr
  have wL := BN_WA hw pB
  have pS2 : SgW T (sigL T sg n h r v tm) := by
    unfold sigL
    by_cases c : sigOK T sg n h r
    · rw [pick_t c]
      obtain ⟨y1, y2, y3, y4, y5, y6, y7⟩ := c
      refine ⟨by rw [List.length_append, List.length_singleton]; omega, fun s hs => ?_⟩
      rcases List.mem_append.mp hs with e | e
      · exact pS.2 s e
      · rw [List.mem_singleton] at e
        rw [e]
        dsimp only
        omega
    · rw [pick_f c]; exact pS
  have n13 : C13 M T (sigL T sg n h r v tm) := by
    unfold sigL
    by_cases c : sigOK T sg n h r
    · rw [pick_t c]
      have hso : ∀ (S d : Nat) (L' : Ar) (x : Si), S < 2 ^ sg.length → (soS (sg ++ [x]) S d L' ↔ soS sg S d L') := fun S d L' x hS => by
        constructor
        · intro g i s hs b1 b2
          exact g i s (by rw [List.getElem?_append_left (List.getElem?_eq_some_iff.mp hs).1]; exact hs) b1 b2
        · intro g i s hs b1 b2
          have hi : i < sg.length := by
            by_cases e : i < sg.length
            · exact e
            · have : S < 2 ^ i := Nat.lt_of_lt_of_le hS (Nat.pow_le_pow_right (by decide) (by omega))
              rw [Nat.testBit_lt_two_pow this] at b1; cases b1
          rw [List.getElem?_append_left hi] at hs
          exact g i s hs b1 b2
      have hwk : ∀ (S : Nat) (x : Si), S < 2 ^ sg.length → ∀ m d L', wk T (sg ++ [x]) S m d L' = wk T sg S m d L' := fun S x hS m => by
        induction m with
        | zero =>
          intro d L'
          rw [wk, wk]
          by_cases c : soS sg S d L'
          · rw [pick_t c, pick_t ((hso S d L' x hS).mpr c)]
          · rw [pick_f c, pick_f (fun h => c ((hso S d L' x hS).mp h))]
        | succ m ih =>
          intro d L'
          rw [wk, wk]
          have e : (fun a => wk T (sg ++ [x]) S m (d + 1) (mvA L' a)) = fun a => wk T sg S m (d + 1) (mvA L' a) := by funext a; exact ih _ _
          rw [e]
          by_cases c : soS sg S d L'
          · rw [pick_t c, pick_t ((hso S d L' x hS).mpr c)]
          · rw [pick_f c, pick_f (fun h => c ((hso S d L' x hS).mp h))]
      intro i hi
      rcases c13 i hi with g | ⟨S, s1, s2, s3, s4⟩
      · exact Or.inl g
      · refine Or.inr ⟨S, ?_, s2, by rw [hwk S _ s1]; exact s3, fun q hq => by rw [hwk S _ s1]; exact s4 q hq⟩
        rw [List.length_append, List.length_singleton, Nat.pow_succ]; omega
    · rw [pick_f c]; exact c13
  refine (c_sight hG hC c3 hw c10 pS.1 c11 n1 n2 h1 h2 r1 r2 hv).mono (fun x q => ?_)
  obtain ⟨q1, k, kc, n10⟩ := q
  refine (r_sight hG (hR.kc kc) (r3.kc kc) hw (r10.kc kc) pS.1 (r11.kc kc) n1 n2 h1 h2 r1 r2 hv).mono (fun y p => ?_)
  obtain ⟨p1, k', kr, m10⟩ := p
  exact ⟨q1.trans p1.symm, T, L, bs, tm, gl, ly, bn, tl, bx, sigL T sg n h r v tm, fk, fp, t, t', hG, ⟨⟨hw, hRH, hL2⟩, ⟨pb1, pb2⟩, ptm, ⟨pg1, pg2⟩, ⟨pB, pBl⟩, ⟨ptl1, ptl2⟩, pbx, pS2, pfk, pfp⟩, ⟨(hC.kp k (by decide)).kr kr, (c1.kp k (by decide)).kr kr, (c2.kp k (by decide)).kr kr, (c3.kp k (by decide)).kr kr, (c4.kp k (by decide)).kr kr, (c5.kp k (by decide)).kr kr, (c6.kp k (by decide)).kr kr, (c7.kp k (by decide)).kr kr, (c9.kp k (by decide)).kr kr, (n10).kr kr, (c11.kp k (by decide)).kr kr, (n13.kp k (by decide)).kr kr, (c14.kp k (by decide)).kr kr, (cd.kp k (by decide) (by decide)).kr kr⟩, ⟨(hR.kc kc).kp k' (by decide), (r1x.kc kc).kp k' (by decide), (r2x.kc kc).kp k' (by decide), (r3.kc kc).kp k' (by decide), (r4.kc kc).kp k' (by decide), (r5.kc kc).kp k' (by decide), (r6.kc kc).kp k' (by decide), (r7.kc kc).kp k' (by decide), (r8.kc kc).kp k' (by decide), (r9.kc kc).kp k' (by decide), m10, (r11.kc kc).kp k' (by decide)⟩⟩

theorem op_fits (hG : GK Γ) (hP : PQ T L bs tm gl bn tl bx sg fk fp) (hc : RC Γ M T L bs tm gl ly bn tl bx sg fk fp t t') (hr : RR M T L bs tm gl ly bn tl bx sg fk fp) {n : Int} (n1 : -2147483648 ≤ n) (n2 : n < 2147483648) {k : Int} (k1 : -2147483648 ≤ k) (k2 : k < 2147483648) : wp (f_X11_fits Γ M 1 (J n) (J k)) (fun x => wp (f_X12_fits Γ x.2 102 (J n) (J k)) (fun y => x.1 = y.1 ∧ REL Γ y.2)) := by
  obtain ⟨⟨hw, hRH, hL2⟩, ⟨pb1, pb2⟩, ptm, ⟨pg1, pg2⟩, ⟨pB, pBl⟩, ⟨ptl1, ptl2⟩, pbx, pS, pfk, pfp⟩ := id hP
  obtain ⟨hC, c1, c2, c3, c4, c5, c6, c7, c9, c10, c11, c13, c14, cd⟩ := hc
  obtain ⟨hR, r1, r2, r3, r4, r5, r6, r7, r8, r9, r10, r11⟩ := hr
  have wL := BN_WA hw pB
  refine (c_fits hG hC c3 hw hRH c10 pS c13 n1 n2 k1 k2).mono (fun x q => ?_)
  obtain ⟨q1, k, kc, n13⟩ := q
  refine (r_fits hG (hR.kc kc) (r3.kc kc) hw hRH (r10.kc kc) pS n1 n2 k1 k2).mono (fun y p => ?_)
  obtain ⟨p1, k', kr⟩ := p
  exact ⟨q1.trans p1.symm, T, L, bs, tm, gl, ly, bn, tl, bx, sg, fk, fp, t, t', hG, hP, ⟨(hC.kp k (by decide)).kr kr, (c1.kp k (by decide)).kr kr, (c2.kp k (by decide)).kr kr, (c3.kp k (by decide)).kr kr, (c4.kp k (by decide)).kr kr, (c5.kp k (by decide)).kr kr, (c6.kp k (by decide)).kr kr, (c7.kp k (by decide)).kr kr, (c9.kp k (by decide)).kr kr, (c10.kp k (by decide)).kr kr, (c11.kp k (by decide)).kr kr, (n13).kr kr, (c14.kp k (by decide)).kr kr, (cd.kp k (by decide) (by decide)).kr kr⟩, ⟨(hR.kc kc).kp k' (by decide), (r1.kc kc).kp k' (by decide), (r2.kc kc).kp k' (by decide), (r3.kc kc).kp k' (by decide), (r4.kc kc).kp k' (by decide), (r5.kc kc).kp k' (by decide), (r6.kc kc).kp k' (by decide), (r7.kc kc).kp k' (by decide), (r8.kc kc).kp k' (by decide), (r9.kc kc).kp k' (by decide), (r10.kc kc).kp k' (by decide), (r11.kc kc).kp k' (by decide)⟩⟩

theorem op_can (hG : GK Γ) (hP : PQ T L bs tm gl bn tl bx sg fk fp) (hc : RC Γ M T L bs tm gl ly bn tl bx sg fk fp t t') (hr : RR M T L bs tm gl ly bn tl bx sg fk fp) {h : Int} (h1 : -2147483648 ≤ h) (h2 : h < 2147483648) {n : Int} (n1 : -2147483648 ≤ n) (n2 : n < 2147483648) {k : Int} (k1 : -2147483648 ≤ k) (k2 : k < 2147483648) : wp (f_X11_can Γ M 1 (J h) (J n) (J k)) (fun x => wp (f_X12_can Γ x.2 102 (J h) (J n) (J k)) (fun y => x.1 = y.1 ∧ REL Γ y.2)) := by
  obtain ⟨⟨hw, hRH, hL2⟩, ⟨pb1, pb2⟩, ptm, ⟨pg1, pg2⟩, ⟨pB, pBl⟩, ⟨ptl1, ptl2⟩, pbx, pS, pfk, pfp⟩ := id hP
  obtain ⟨hC, c1, c2, c3, c4, c5, c6, c7, c9, c10, c11, c13, c14, cd⟩ := hc
  obtain ⟨hR, r1, r2, r3, r4, r5, r6, r7, r8, r9, r10, r11⟩ := hr
  have wL := BN_WA hw pB
  refine (c_can hG hC c3 hw hRH c10 pS c13 h1 h2 n1 n2 k1 k2).mono (fun x q => ?_)
  obtain ⟨q1, k, kc, n13⟩ := q
  refine (r_canQ hG (hR.kc kc) (r3.kc kc) hw hRH (r10.kc kc) pS h1 h2 n1 n2 k1 k2).mono (fun y p => ?_)
  obtain ⟨p1, k', kr⟩ := p
  exact ⟨q1.trans p1.symm, T, L, bs, tm, gl, ly, bn, tl, bx, sg, fk, fp, t, t', hG, hP, ⟨(hC.kp k (by decide)).kr kr, (c1.kp k (by decide)).kr kr, (c2.kp k (by decide)).kr kr, (c3.kp k (by decide)).kr kr, (c4.kp k (by decide)).kr kr, (c5.kp k (by decide)).kr kr, (c6.kp k (by decide)).kr kr, (c7.kp k (by decide)).kr kr, (c9.kp k (by decide)).kr kr, (c10.kp k (by decide)).kr kr, (c11.kp k (by decide)).kr kr, (n13).kr kr, (c14.kp k (by decide)).kr kr, (cd.kp k (by decide) (by decide)).kr kr⟩, ⟨(hR.kc kc).kp k' (by decide), (r1.kc kc).kp k' (by decide), (r2.kc kc).kp k' (by decide), (r3.kc kc).kp k' (by decide), (r4.kc kc).kp k' (by decide), (r5.kc kc).kp k' (by decide), (r6.kc kc).kp k' (by decide), (r7.kc kc).kp k' (by decide), (r8.kc kc).kp k' (by decide), (r9.kc kc).kp k' (by decide), (r10.kc kc).kp k' (by decide), (r11.kc kc).kp k' (by decide)⟩⟩

theorem op_image (hG : GK Γ) (hP : PQ T L bs tm gl bn tl bx sg fk fp) (hc : RC Γ M T L bs tm gl ly bn tl bx sg fk fp t t') (hr : RR M T L bs tm gl ly bn tl bx sg fk fp) {z : Int} (z1 : -2147483648 ≤ z) (z2 : z < 2147483648) : wp (f_X11_image Γ M 1 (J z)) (fun x => wp (f_X12_image x.2.1 x.2.2 102 (J z)) (fun y => x.1 = y.1 ∧ REL x.2.1 y.2)) := by
  obtain ⟨⟨hw, hRH, hL2⟩, ⟨pb1, pb2⟩, ptm, ⟨pg1, pg2⟩, ⟨pB, pBl⟩, ⟨ptl1, ptl2⟩, pbx, pS, pfk, pfp⟩ := id hP
  obtain ⟨hC, c1, c2, c3, c4, c5, c6, c7, c9, c10, c11, c13, c14, cd⟩ := hc
  obtain ⟨hR, r1, r2, r3, r4, r5, r6, r7, r8, r9, r10, r11⟩ := hr
  have wL := BN_WA hw pB
  have pbx2 : ∀ j x, imgB bx bn L z j = some x → BN T (fst T) x.1 x.2 ∧ x.1.length ≤ 300 := fun j x hx => by
    unfold imgB at hx
    split at hx
    · dsimp only at hx
      split at hx
      · rw [← Option.some.inj hx]; exact ⟨pB, pBl⟩
      · exact pbx j x hx
    · exact pbx j x hx
  refine (c_image hG hC c4 c5 pBl c9 z1 z2).mono (fun x q => ?_)
  obtain ⟨q1, qg, k, kc, n9⟩ := q
  have hG' : GK x.2.1 := by rw [qg]; exact hG
  refine (r_image hG' (hR.kc kc) hw (r4.kc kc) wL (r5.kc kc) pBl (r9.kc kc) pbx z1 z2).mono (fun y p => ?_)
  obtain ⟨p1, k', kr, m9⟩ := p
  exact ⟨q1.trans p1.symm, T, L, bs, tm, gl, ly, bn, tl, imgB bx bn L z, sg, fk, fp, t, t', hG', ⟨⟨hw, hRH, hL2⟩, ⟨pb1, pb2⟩, ptm, ⟨pg1, pg2⟩, ⟨pB, pBl⟩, ⟨ptl1, ptl2⟩, pbx2, pS, pfk, pfp⟩, ⟨(hC.kp k (by decide)).kr kr, (c1.kp k (by decide)).kr kr, (c2.kp k (by decide)).kr kr, (c3.kp k (by decide)).kr kr, (c4.kp k (by decide)).kr kr, (c5.kp k (by decide)).kr kr, (c6.kp k (by decide)).kr kr, (c7.kp k (by decide)).kr kr, (n9).kr kr, (c10.kp k (by decide)).kr kr, (c11.kp k (by decide)).kr kr, (c13.kp k (by decide)).kr kr, (c14.kp k (by decide)).kr kr, (by rw [qg]; exact (cd.kp k (by decide) (by decide)).kr kr)⟩, ⟨(hR.kc kc).kp k' (by decide), (r1.kc kc).kp k' (by decide), (r2.kc kc).kp k' (by decide), (r3.kc kc).kp k' (by decide), (r4.kc kc).kp k' (by decide), (r5.kc kc).kp k' (by decide), (r6.kc kc).kp k' (by decide), (r7.kc kc).kp k' (by decide), (r8.kc kc).kp k' (by decide), m9, (r10.kc kc).kp k' (by decide), (r11.kc kc).kp k' (by decide)⟩⟩

theorem op_back (hG : GK Γ) (hP : PQ T L bs tm gl bn tl bx sg fk fp) (hc : RC Γ M T L bs tm gl ly bn tl bx sg fk fp t t') (hr : RR M T L bs tm gl ly bn tl bx sg fk fp) {z : Int} (z1 : -2147483648 ≤ z) (z2 : z < 2147483648) : wp (f_X11_back Γ M 1 (J z)) (fun x => wp (f_X12_back x.2.1 x.2.2 102 (J z)) (fun y => x.1 = y.1 ∧ REL x.2.1 y.2)) := by
  obtain ⟨⟨hw, hRH, hL2⟩, ⟨pb1, pb2⟩, ptm, ⟨pg1, pg2⟩, ⟨pB, pBl⟩, ⟨ptl1, ptl2⟩, pbx, pS, pfk, pfp⟩ := id hP
  obtain ⟨hC, c1, c2, c3, c4, c5, c6, c7, c9, c10, c11, c13, c14, cd⟩ := hc
  obtain ⟨hR, r1, r2, r3, r4, r5, r6, r7, r8, r9, r10, r11⟩ := hr
  have wL := BN_WA hw pB
  have pBn : BN T (fst T) (match bacX bx z with | none => bn | some x => x.1) (match bacX bx z with | none => L | some x => x.2) ∧ (match bacX bx z with | none => bn | some x => x.1).length ≤ 300 := by
    cases e : bacX bx z with
    | none => exact ⟨pB, pBl⟩
    | some x =>
      unfold bacX at e
      split at e
      · exact pbx _ x e
      · cases e
  refine (c_back hG hC c3 hw hRH c4 c5 c9 pbx z1 z2).mono (fun x q => ?_)
  obtain ⟨q1, qg, k, kc, n4, n5⟩ := q
  have hG' : GK x.2.1 := by rw [qg]; exact hG
  refine (r_back hG' (hR.kc kc) hw (r4.kc kc) (r5.kc kc) (r9.kc kc) pbx z1 z2).mono (fun y p => ?_)
  obtain ⟨p1, k', kr, m4, m5⟩ := p
  exact ⟨q1.trans p1.symm, T, (match bacX bx z with | none => L | some x => x.2), bs, tm, gl, ly, (match bacX bx z with | none => bn | some x => x.1), tl, bx, sg, fk, fp, t, t', hG', ⟨⟨hw, hRH, hL2⟩, ⟨pb1, pb2⟩, ptm, ⟨pg1, pg2⟩, pBn, ⟨ptl1, ptl2⟩, pbx, pS, pfk, pfp⟩, ⟨(hC.kp k (by decide)).kr kr, (c1.kp k (by decide)).kr kr, (c2.kp k (by decide)).kr kr, (c3.kp k (by decide)).kr kr, (n4).kr kr, (n5).kr kr, (c6.kp k (by decide)).kr kr, (c7.kp k (by decide)).kr kr, (c9.kp k (by decide)).kr kr, (c10.kp k (by decide)).kr kr, (c11.kp k (by decide)).kr kr, (c13.kp k (by decide)).kr kr, (c14.kp k (by decide)).kr kr, (by rw [qg]; exact (cd.kp k (by decide) (by decide)).kr kr)⟩, ⟨(hR.kc kc).kp k' (by decide), (r1.kc kc).kp k' (by decide), (r2.kc kc).kp k' (by decide), (r3.kc kc).kp k' (by decide), m4, m5, (r6.kc kc).kp k' (by decide), (r7.kc kc).kp k' (by decide), (r8.kc kc).kp k' (by decide), (r9.kc kc).kp k' (by decide), (r10.kc kc).kp k' (by decide), (r11.kc kc).kp k' (by decide)⟩⟩

theorem op_fewest (hG : GK Γ) (hP : PQ T L bs tm gl bn tl bx sg fk fp) (hc : RC Γ M T L bs tm gl ly bn tl bx sg fk fp t t') (hr : RR M T L bs tm gl ly bn tl bx sg fk fp)  : wp (f_X11_fewest Γ M 1 ) (fun x => wp (f_X12_fewest x.2.1 x.2.2 102 ) (fun y => x.1 = y.1 ∧ REL x.2.1 y.2)) := by
  obtain ⟨⟨hw, hRH, hL2⟩, ⟨pb1, pb2⟩, ptm, ⟨pg1, pg2⟩, ⟨pB, pBl⟩, ⟨ptl1, ptl2⟩, pbx, pS, pfk, pfp⟩ := id hP
  obtain ⟨hC, c1, c2, c3, c4, c5, c6, c7, c9, c10, c11, c13, c14, cd⟩ := hc
  obtain ⟨hR, r1, r2, r3, r4, r5, r6, r7, r8, r9, r10, r11⟩ := hr
  have wL := BN_WA hw pB
  refine (c_fewest hG hC c3 hw hRH c4 wL c7 pg1 pg2 cd).mono (fun x q => ?_)
  obtain ⟨q1, qg, k, kc, n8⟩ := q
  have hG' := (qg : OldG Γ x.2.1).gk hG
  refine (r_fewest hG' (hR.kc kc) (r3.kc kc) hw hRH (r4.kc kc) wL (r7.kc kc) pg1 pg2).mono (fun y p => ?_)
  obtain ⟨p1, k', kr, m8⟩ := p
  exact ⟨q1.trans p1.symm, T, L, bs, tm, gl, (fewV T L gl).2, bn, tl, bx, sg, fk, fp, t, t', hG', hP, ⟨(hC.kp k (by decide)).kr kr, (c1.kp k (by decide)).kr kr, (c2.kp k (by decide)).kr kr, (c3.kp k (by decide)).kr kr, (c4.kp k (by decide)).kr kr, (c5.kp k (by decide)).kr kr, (c6.kp k (by decide)).kr kr, (c7.kp k (by decide)).kr kr, (c9.kp k (by decide)).kr kr, (c10.kp k (by decide)).kr kr, (c11.kp k (by decide)).kr kr, (c13.kp k (by decide)).kr kr, (c14.kp k (by decide)).kr kr, (n8).kr kr⟩, ⟨(hR.kc kc).kp k' (by decide), (r1.kc kc).kp k' (by decide), (r2.kc kc).kp k' (by decide), (r3.kc kc).kp k' (by decide), (r4.kc kc).kp k' (by decide), (r5.kc kc).kp k' (by decide), (r6.kc kc).kp k' (by decide), (r7.kc kc).kp k' (by decide), m8, (r9.kc kc).kp k' (by decide), (r10.kc kc).kp k' (by decide), (r11.kc kc).kp k' (by decide)⟩⟩

theorem op_least (hG : GK Γ) (hP : PQ T L bs tm gl bn tl bx sg fk fp) (hc : RC Γ M T L bs tm gl ly bn tl bx sg fk fp t t') (hr : RR M T L bs tm gl ly bn tl bx sg fk fp)  : wp (f_X11_least Γ M 1 ) (fun x => wp (f_X12_least x.2.1 x.2.2 102 ) (fun y => x.1 = y.1 ∧ REL x.2.1 y.2)) := by
  obtain ⟨⟨hw, hRH, hL2⟩, ⟨pb1, pb2⟩, ptm, ⟨pg1, pg2⟩, ⟨pB, pBl⟩, ⟨ptl1, ptl2⟩, pbx, pS, pfk, pfp⟩ := id hP
  obtain ⟨hC, c1, c2, c3, c4, c5, c6, c7, c9, c10, c11, c13, c14, cd⟩ := hc
  obtain ⟨hR, r1, r2, r3, r4, r5, r6, r7, r8, r9, r10, r11⟩ := hr
  have wL := BN_WA hw pB
  refine (c_least hG hC c3 hw hRH c4 wL c7 pg1 pg2 cd).mono (fun x q => ?_)
  obtain ⟨q1, qg, k, kc, n8⟩ := q
  have hG' := (qg : OldG Γ x.2.1).gk hG
  refine (r_least hG' (hR.kc kc) (r3.kc kc) hw hRH (r4.kc kc) wL (r7.kc kc) pg1 pg2).mono (fun y p => ?_)
  obtain ⟨p1, k', kr, m8⟩ := p
  exact ⟨q1.trans p1.symm, T, L, bs, tm, gl, (leaV T L gl).2, bn, tl, bx, sg, fk, fp, t, t', hG', hP, ⟨(hC.kp k (by decide)).kr kr, (c1.kp k (by decide)).kr kr, (c2.kp k (by decide)).kr kr, (c3.kp k (by decide)).kr kr, (c4.kp k (by decide)).kr kr, (c5.kp k (by decide)).kr kr, (c6.kp k (by decide)).kr kr, (c7.kp k (by decide)).kr kr, (c9.kp k (by decide)).kr kr, (c10.kp k (by decide)).kr kr, (c11.kp k (by decide)).kr kr, (c13.kp k (by decide)).kr kr, (c14.kp k (by decide)).kr kr, (n8).kr kr⟩, ⟨(hR.kc kc).kp k' (by decide), (r1.kc kc).kp k' (by decide), (r2.kc kc).kp k' (by decide), (r3.kc kc).kp k' (by decide), (r4.kc kc).kp k' (by decide), (r5.kc kc).kp k' (by decide), (r6.kc kc).kp k' (by decide), (r7.kc kc).kp k' (by decide), m8, (r9.kc kc).kp k' (by decide), (r10.kc kc).kp k' (by decide), (r11.kc kc).kp k' (by decide)⟩⟩

theorem op_richest (hG : GK Γ) (hP : PQ T L bs tm gl bn tl bx sg fk fp) (hc : RC Γ M T L bs tm gl ly bn tl bx sg fk fp t t') (hr : RR M T L bs tm gl ly bn tl bx sg fk fp) {z : Int} (z1 : -2147483648 ≤ z) (z2 : z < 2147483648) : wp (f_X11_richest Γ M 1 (J z)) (fun x => wp (f_X12_richest x.2.1 x.2.2 102 (J z)) (fun y => x.1 = y.1 ∧ REL x.2.1 y.2)) := by
  obtain ⟨⟨hw, hRH, hL2⟩, ⟨pb1, pb2⟩, ptm, ⟨pg1, pg2⟩, ⟨pB, pBl⟩, ⟨ptl1, ptl2⟩, pbx, pS, pfk, pfp⟩ := id hP
  obtain ⟨hC, c1, c2, c3, c4, c5, c6, c7, c9, c10, c11, c13, c14, cd⟩ := hc
  obtain ⟨hR, r1, r2, r3, r4, r5, r6, r7, r8, r9, r10, r11⟩ := hr
  have wL := BN_WA hw pB
  refine (c_richest hG hC c3 hw hRH c4 wL cd z1 z2).mono (fun x q => ?_)
  obtain ⟨q1, qg, k, kc, n8⟩ := q
  have hG' := (qg : OldG Γ x.2.1).gk hG
  refine (r_richest hG' (hR.kc kc) (r3.kc kc) hw hRH (r4.kc kc) wL z1 z2).mono (fun y p => ?_)
  obtain ⟨p1, k', kr, m8⟩ := p
  exact ⟨q1.trans p1.symm, T, L, bs, tm, gl, (ricV T L z).2, bn, tl, bx, sg, fk, fp, t, t', hG', hP, ⟨(hC.kp k (by decide)).kr kr, (c1.kp k (by decide)).kr kr, (c2.kp k (by decide)).kr kr, (c3.kp k (by decide)).kr kr, (c4.kp k (by decide)).kr kr, (c5.kp k (by decide)).kr kr, (c6.kp k (by decide)).kr kr, (c7.kp k (by decide)).kr kr, (c9.kp k (by decide)).kr kr, (c10.kp k (by decide)).kr kr, (c11.kp k (by decide)).kr kr, (c13.kp k (by decide)).kr kr, (c14.kp k (by decide)).kr kr, (n8).kr kr⟩, ⟨(hR.kc kc).kp k' (by decide), (r1.kc kc).kp k' (by decide), (r2.kc kc).kp k' (by decide), (r3.kc kc).kp k' (by decide), (r4.kc kc).kp k' (by decide), (r5.kc kc).kp k' (by decide), (r6.kc kc).kp k' (by decide), (r7.kc kc).kp k' (by decide), m8, (r9.kc kc).kp k' (by decide), (r10.kc kc).kp k' (by decide), (r11.kc kc).kp k' (by decide)⟩⟩

theorem op_free (hG : GK Γ) (hP : PQ T L bs tm gl bn tl bx sg fk fp) (hc : RC Γ M T L bs tm gl ly bn tl bx sg fk fp t t') (hr : RR M T L bs tm gl ly bn tl bx sg fk fp) {z : Int} (z1 : -2147483648 ≤ z) (z2 : z < 2147483648) : wp (f_X11_free Γ M 1 (J z)) (fun x => wp (f_X12_free x.2.1 x.2.2 102 (J z)) (fun y => x.1 = y.1 ∧ REL x.2.1 y.2)) := by
  obtain ⟨⟨hw, hRH, hL2⟩, ⟨pb1, pb2⟩, ptm, ⟨pg1, pg2⟩, ⟨pB, pBl⟩, ⟨ptl1, ptl2⟩, pbx, pS, pfk, pfp⟩ := id hP
  obtain ⟨hC, c1, c2, c3, c4, c5, c6, c7, c9, c10, c11, c13, c14, cd⟩ := hc
  obtain ⟨hR, r1, r2, r3, r4, r5, r6, r7, r8, r9, r10, r11⟩ := hr
  have wL := BN_WA hw pB
  refine (c_free hG hC c3 hw hRH c4 wL cd z1 z2).mono (fun x q => ?_)
  obtain ⟨q1, qg, k, kc, n8⟩ := q
  have hG' := (qg : OldG Γ x.2.1).gk hG
  refine (r_free hG' (hR.kc kc) (r3.kc kc) hw hRH (r4.kc kc) wL z1 z2).mono (fun y p => ?_)
  obtain ⟨p1, k', kr, m8⟩ := p
  exact ⟨q1.trans p1.symm, T, L, bs, tm, gl, (freV T L z).2, bn, tl, bx, sg, fk, fp, t, t', hG', hP, ⟨(hC.kp k (by decide)).kr kr, (c1.kp k (by decide)).kr kr, (c2.kp k (by decide)).kr kr, (c3.kp k (by decide)).kr kr, (c4.kp k (by decide)).kr kr, (c5.kp k (by decide)).kr kr, (c6.kp k (by decide)).kr kr, (c7.kp k (by decide)).kr kr, (c9.kp k (by decide)).kr kr, (c10.kp k (by decide)).kr kr, (c11.kp k (by decide)).kr kr, (c13.kp k (by decide)).kr kr, (c14.kp k (by decide)).kr kr, (n8).kr kr⟩, ⟨(hR.kc kc).kp k' (by decide), (r1.kc kc).kp k' (by decide), (r2.kc kc).kp k' (by decide), (r3.kc kc).kp k' (by decide), (r4.kc kc).kp k' (by decide), (r5.kc kc).kp k' (by decide), (r6.kc kc).kp k' (by decide), (r7.kc kc).kp k' (by decide), m8, (r9.kc kc).kp k' (by decide), (r10.kc kc).kp k' (by decide), (r11.kc kc).kp k' (by decide)⟩⟩

theorem op_spare (hG : GK Γ) (hP : PQ T L bs tm gl bn tl bx sg fk fp) (hc : RC Γ M T L bs tm gl ly bn tl bx sg fk fp t t') (hr : RR M T L bs tm gl ly bn tl bx sg fk fp) {n : Int} (n1 : -2147483648 ≤ n) (n2 : n < 2147483648) {w : Int} (w1 : -2147483648 ≤ w) (w2 : w < 2147483648) : wp (f_X11_spare Γ M 1 (J n) (J w)) (fun x => wp (f_X12_spare x.2.1 x.2.2 102 (J n) (J w)) (fun y => x.1 = y.1 ∧ REL x.2.1 y.2)) := by
  obtain ⟨⟨hw, hRH, hL2⟩, ⟨pb1, pb2⟩, ptm, ⟨pg1, pg2⟩, ⟨pB, pBl⟩, ⟨ptl1, ptl2⟩, pbx, pS, pfk, pfp⟩ := id hP
  obtain ⟨hC, c1, c2, c3, c4, c5, c6, c7, c9, c10, c11, c13, c14, cd⟩ := hc
  obtain ⟨hR, r1, r2, r3, r4, r5, r6, r7, r8, r9, r10, r11⟩ := hr
  have wL := BN_WA hw pB
  refine (c_spare hG hC c3 hw hL2 hRH c4 wL c7 pg1 pg2 cd n1 n2 w1 w2).mono (fun x q => ?_)
  obtain ⟨q1, qg, k, kc, n8⟩ := q
  have hG' := (qg : OldG Γ x.2.1).gk hG
  refine (r_spare hG' (hR.kc kc) (r3.kc kc) hw hL2 hRH (r4.kc kc) wL (r7.kc kc) pg1 pg2 n1 n2 w1 w2).mono (fun y p => ?_)
  obtain ⟨p1, k', kr, m3⟩ := p
  exact ⟨q1.trans p1.symm, T, L, bs, tm, gl, ly, bn, tl, bx, sg, fk, fp, t, t', hG', hP, ⟨(hC.kp k (by decide)).kr kr, (c1.kp k (by decide)).kr kr, (c2.kp k (by decide)).kr kr, (c3.kp k (by decide)).kr kr, (c4.kp k (by decide)).kr kr, (c5.kp k (by decide)).kr kr, (c6.kp k (by decide)).kr kr, (c7.kp k (by decide)).kr kr, (c9.kp k (by decide)).kr kr, (c10.kp k (by decide)).kr kr, (c11.kp k (by decide)).kr kr, (c13.kp k (by decide)).kr kr, (c14.kp k (by decide)).kr kr, (n8).kr kr⟩, ⟨(hR.kc kc).kp k' (by decide), (r1.kc kc).kp k' (by decide), (r2.kc kc).kp k' (by decide), m3, (r4.kc kc).kp k' (by decide), (r5.kc kc).kp k' (by decide), (r6.kc kc).kp k' (by decide), (r7.kc kc).kp k' (by decide), (r8.kc kc).kp k' (by decide), (r9.kc kc).kp k' (by decide), (r10.kc kc).kp k' (by decide), (r11.kc kc).kp k' (by decide)⟩⟩

end
