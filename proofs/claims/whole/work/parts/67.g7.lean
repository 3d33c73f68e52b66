def g_X12_lies (s : ryS) (v1 : Int32) : Option (Int32) :=
    (g_X12_isIn s v1 (0 : Int32) ((s.1 102 66) - 1)).bind fun r1 =>
    if r1 = 0 then
      (some ((-1)))
    else
      rhck (0 ≤ (v1).toInt ∧ (v1).toInt < (61000 : Nat)) <|
      some (s.1 145 v1.toNatClampNeg)
set_option maxHeartbeats 400000 in
set_option maxRecDepth 100000 in
theorem e_X12_lies {Γ : rhG} {R : Nat → Nat → Nat} (hS : ShS Γ R) {s : ryS} : ∀ (v1 : Int32), f_X12_lies Γ (ryM s R) 102 v1 = g_X12_lies s v1 := by
  intros
  simp only [f_X12_lies, g_X12_lies, rhck, ryM_1, ryM_2, ryM_3, ry_si, ry_sl, if_true, ry_ck, Option.map_some, Option.map_none, ry_ite, ry_bm, ry_mb, Nat.add_assoc, Nat.reduceAdd, Option.some_bind, Option.bind_some, ssk_102 hS, ssk_145 hS, ssl_145 hS, ssr_102_65 hS, e_X12_isIn]
def g_X12_on_32 (s : ryS) (v1 : Int32) (v2 : Int32) (w0 : Int32) (w1 : Int32) (w2 : Int32) (w3 : Int32) : Option (Int32) :=
    (g_X12_isIn s w0 w1 ((w2 - w3) - 1)).bind fun r2 =>
    if r2 = 0 then
      (some ((-1)))
    else
      if v1 = 0 then
        (rhck (0 ≤ (0 + v2).toInt ∧ (0 + v2).toInt < (8 : Nat)) <|
        some (s.1 131 (0 + v2).toNatClampNeg))
      else
        rhck (0 ≤ (v1 - 1).toInt ∧ (v1 - 1).toInt < (6 : Nat)) <|
        rhck (0 ≤ ((s.1 132 (v1 - 1).toNatClampNeg) + v2).toInt ∧ ((s.1 132 (v1 - 1).toNatClampNeg) + v2).toInt < (8 : Nat)) <|
        some (s.1 131 ((s.1 132 (v1 - 1).toNatClampNeg) + v2).toNatClampNeg)
def g_X12_on (s : ryS) (v1 : Int32) (v2 : Int32) : Option (Int32) :=
    (g_X12_isRail s v1).bind fun r1 =>
    if r1 = 0 then
      (some ((-1)))
    else
      rhck (0 ≤ (v1).toInt ∧ (v1).toInt < (6 : Nat)) <|
      if v1 = 0 then
        (g_X12_on_32 s v1 v2 v2 0 (s.1 132 v1.toNatClampNeg) 0)
      else
        rhck (0 ≤ (v1 - 1).toInt ∧ (v1 - 1).toInt < (6 : Nat)) <|
        g_X12_on_32 s v1 v2 v2 0 (s.1 132 v1.toNatClampNeg) (s.1 132 (v1 - 1).toNatClampNeg)
set_option maxHeartbeats 400000 in
set_option maxRecDepth 100000 in
theorem e_X12_on_32 {Γ : rhG} {R : Nat → Nat → Nat} (hS : ShS Γ R) {s : ryS} : ∀ (v1 : Int32) (v2 : Int32) (w0 : Int32) (w1 : Int32) (w2 : Int32) (w3 : Int32), f_X12_on_32 Γ (ryM s R) 102 v1 v2 w0 w1 w2 w3 = g_X12_on_32 s v1 v2 w0 w1 w2 w3 := by
  intros
  simp only [f_X12_on_32, g_X12_on_32, rhck, ryM_1, ryM_2, ryM_3, ry_si, ry_sl, if_true, ry_ck, Option.map_some, Option.map_none, ry_ite, ry_bm, ry_mb, Nat.add_assoc, Nat.reduceAdd, Option.some_bind, Option.bind_some, ssk_102 hS, ssk_131 hS, ssk_132 hS, ssl_131 hS, ssl_132 hS, ssr_102_42 hS, ssr_102_43 hS, e_X12_isIn]
set_option maxHeartbeats 400000 in
set_option maxRecDepth 100000 in
theorem e_X12_on {Γ : rhG} {R : Nat → Nat → Nat} (hS : ShS Γ R) {s : ryS} : ∀ (v1 : Int32) (v2 : Int32), f_X12_on Γ (ryM s R) 102 v1 v2 = g_X12_on s v1 v2 := by
  intros
  simp only [f_X12_on, g_X12_on, rhck, ryM_1, ryM_2, ryM_3, ry_si, ry_sl, if_true, ry_ck, Option.map_some, Option.map_none, ry_ite, ry_bm, ry_mb, Nat.add_assoc, Nat.reduceAdd, Option.some_bind, Option.bind_some, ssk_102 hS, ssk_132 hS, ssl_132 hS, ssr_102_43 hS, e_X12_isRail hS, e_X12_on_32 hS]
def g_X12_open (s : ryS) : Option (Int32 × ryS) :=
    let x1 := s.1 102 53
    let s2 := rysi s 102 53 0
    some ((x1, s2))
set_option maxHeartbeats 400000 in
set_option maxRecDepth 100000 in
theorem e_X12_open {Γ : rhG} {R : Nat → Nat → Nat} (hS : ShS Γ R) : ∀ (s : ryS), f_X12_open Γ (ryM s R) 102 = Option.map (fun q => (q.1, ryM q.2 R)) (g_X12_open s) := by
  intros
  simp only [f_X12_open, g_X12_open, rhck, ryM_1, ryM_2, ryM_3, ry_si, ry_sl, if_true, ry_ck, Option.map_some, Option.map_none, ry_ite, ry_bm, ry_mb, Nat.add_assoc, Nat.reduceAdd, Option.some_bind, Option.bind_some, ssk_102 hS]
def g_X12_pull (s : ryS) (v1 : Int32) (v2 : Int32) (v3 : Int32) : Option (Int32 × ryS) :=
    (g_X12_layNow s).bind fun r1 =>
    if (r1.1 102 48) = 300 then
      (some (((-1), r1)))
    else
      (g_X12_isLawful r1 v1 v2 v3).bind fun r2 =>
      if r2.1 = 0 then
        (some (((-1), r2.2)))
      else
        (g_X12_sumOf (16 : Nat) r2.2 114 v1 v2).bind fun r3 =>
        rhck (0 ≤ (r2.2.1 102 48).toInt ∧ (r2.2.1 102 48).toInt < (300 : Nat)) <|
        let s4 := rysi r2.2 134 (r2.2.1 102 48 : Int32).toNatClampNeg r3
        rhck (0 ≤ (s4.1 102 48).toInt ∧ (s4.1 102 48).toInt < (300 : Nat)) <|
        let s5 := rysi s4 102 49 ((s4.1 102 49) + (s4.1 134 (s4.1 102 48).toNatClampNeg))
        rhck (0 ≤ (s5.1 102 48).toInt ∧ (s5.1 102 48).toInt < (300 : Nat)) <|
        let s6 := rysi s5 133 (s5.1 102 48 : Int32).toNatClampNeg ((((100 * v1) + (10 * v2)) + v3))
        let s7 := rysi s6 102 48 ((s6.1 102 48) + 1)
        (g_X12_moves s7 v1 v2 v3).bind fun r8 =>
        (g_X12_keepNow r8).bind fun r9 =>
        rhck (0 ≤ ((r9.1 102 48) - 1).toInt ∧ ((r9.1 102 48) - 1).toInt < (300 : Nat)) <|
        some ((r9.1 134 ((r9.1 102 48) - 1).toNatClampNeg, r9))
set_option maxHeartbeats 400000 in
set_option maxRecDepth 100000 in
theorem e_X12_pull {Γ : rhG} {R : Nat → Nat → Nat} (hS : ShS Γ R) : ∀ (s : ryS) (v1 : Int32) (v2 : Int32) (v3 : Int32), f_X12_pull Γ (ryM s R) 102 v1 v2 v3 = Option.map (fun q => (q.1, ryM q.2 R)) (g_X12_pull s v1 v2 v3) := by
  intros
  simp only [f_X12_pull, g_X12_pull, rhck, ryM_1, ryM_2, ryM_3, ry_si, ry_sl, if_true, ry_ck, Option.map_some, Option.map_none, ry_ite, ry_bm, ry_mb, Nat.add_assoc, Nat.reduceAdd, Option.some_bind, Option.bind_some, ssk_102 hS, ssk_114 hS, ssk_133 hS, ssk_134 hS, ssl_114 hS, ssl_133 hS, ssl_134 hS, ssr_102_20 hS, ssr_102_46 hS, ssr_102_47 hS, e_X12_layNow hS, e_X12_isLawful hS, e_X12_sumOf hS ⟨ssk_114 hS, ssl_114 hS⟩, e_X12_moves hS, e_X12_keepNow hS]
def g_X12_railHere (s : ryS) : Option (Int32) :=
    rhck (0 ≤ (s.1 102 35).toInt ∧ (s.1 102 35).toInt < (2 : Nat)) <|
    (g_X12_here (10 : Nat) s 121 (5 * (s.1 102 35)) (s.1 105 (s.1 102 35).toNatClampNeg)).bind fun r1 =>
    some r1
set_option maxHeartbeats 400000 in
set_option maxRecDepth 100000 in
theorem e_X12_railHere {Γ : rhG} {R : Nat → Nat → Nat} (hS : ShS Γ R) {s : ryS} : f_X12_railHere Γ (ryM s R) 102 = g_X12_railHere s := by
  intros
  simp only [f_X12_railHere, g_X12_railHere, rhck, ryM_1, ryM_2, ryM_3, ry_si, ry_sl, if_true, ry_ck, Option.map_some, Option.map_none, ry_ite, ry_bm, ry_mb, Nat.add_assoc, Nat.reduceAdd, Option.some_bind, Option.bind_some, ssk_102 hS, ssk_105 hS, ssk_121 hS, ssl_105 hS, ssl_121 hS, ssr_102_11 hS, ssr_102_27 hS, e_X12_here hS ⟨ssk_121 hS, ssl_121 hS⟩]
def g_X12_signed_74 (s : ryS) (w0 : Int32) : Option (Int32 × ryS) :=
    (g_X12_isGood s).bind fun r5 =>
    if r5 = 0 then
      (some ((w0, s)))
    else
      (g_X12_goOn s).bind fun r6 =>
      some ((w0, r6))
def g_X12_signed_58 (s : ryS) (v3 : Int32) : Option (Int32 × ryS) :=
    if v3 = 0 then
      (g_X12_signed_74 s (s.1 102 9))
    else
      g_X12_signed_74 s (-(s.1 102 9))
def g_X12_signed_29 (s : ryS) (v1 : Int32) (v2 : Int32) (v3 : Int32) : Option (Int32 × ryS) :=
    if (s.1 102 8) = 4 then
      (if v1 < (s.1 102 9) then
        ((g_X12_fails s (4 : Int32) v2).bind fun r4 =>
        g_X12_signed_58 r4 v3)
      else
        g_X12_signed_58 s v3)
    else
      (g_X12_misplaced s).bind fun r7 =>
      g_X12_signed_58 r7 v3
def g_X12_signed (s : ryS) (v1 : Int32) : Option (Int32 × ryS) :=
    (g_X12_isGood s).bind fun r1 =>
    if r1 = 0 then
      (some ((0, s)))
    else
      let x2 := s.1 102 6
      (g_X12_stands s (45 : Int32)).bind fun r3 =>
      if r3 = 0 then
        (g_X12_signed_29 s v1 x2 r3)
      else
        (g_X12_goOn s).bind fun r8 =>
        g_X12_signed_29 r8 v1 x2 r3
set_option maxHeartbeats 400000 in
set_option maxRecDepth 100000 in
theorem e_X12_signed_74 {Γ : rhG} {R : Nat → Nat → Nat} (hS : ShS Γ R) : ∀ (s : ryS) (w0 : Int32), f_X12_signed_74 Γ (ryM s R) 102 w0 = Option.map (fun q => (q.1, ryM q.2 R)) (g_X12_signed_74 s w0) := by
  intros
  simp only [f_X12_signed_74, g_X12_signed_74, rhck, ryM_1, ryM_2, ryM_3, ry_si, ry_sl, if_true, ry_ck, Option.map_some, Option.map_none, ry_ite, ry_bm, ry_mb, Nat.add_assoc, Nat.reduceAdd, Option.some_bind, Option.bind_some, ssk_102 hS, e_X12_isGood hS, e_X12_goOn hS]
set_option maxHeartbeats 400000 in
set_option maxRecDepth 100000 in
theorem e_X12_signed_58 {Γ : rhG} {R : Nat → Nat → Nat} (hS : ShS Γ R) : ∀ (s : ryS) (v3 : Int32), f_X12_signed_58 Γ (ryM s R) 102 v3 = Option.map (fun q => (q.1, ryM q.2 R)) (g_X12_signed_58 s v3) := by
  intros
  simp only [f_X12_signed_58, g_X12_signed_58, rhck, ryM_1, ryM_2, ryM_3, ry_si, ry_sl, if_true, ry_ck, Option.map_some, Option.map_none, ry_ite, ry_bm, ry_mb, Nat.add_assoc, Nat.reduceAdd, Option.some_bind, Option.bind_some, ssk_102 hS, e_X12_signed_74 hS]
set_option maxHeartbeats 400000 in
set_option maxRecDepth 100000 in
theorem e_X12_signed_29 {Γ : rhG} {R : Nat → Nat → Nat} (hS : ShS Γ R) : ∀ (s : ryS) (v1 : Int32) (v2 : Int32) (v3 : Int32), f_X12_signed_29 Γ (ryM s R) 102 v1 v2 v3 = Option.map (fun q => (q.1, ryM q.2 R)) (g_X12_signed_29 s v1 v2 v3) := by
  intros
  simp only [f_X12_signed_29, g_X12_signed_29, rhck, ryM_1, ryM_2, ryM_3, ry_si, ry_sl, if_true, ry_ck, Option.map_some, Option.map_none, ry_ite, ry_bm, ry_mb, Nat.add_assoc, Nat.reduceAdd, Option.some_bind, Option.bind_some, ssk_102 hS, e_X12_fails hS, e_X12_misplaced hS, e_X12_signed_58 hS]
set_option maxHeartbeats 400000 in
set_option maxRecDepth 100000 in
theorem e_X12_signed {Γ : rhG} {R : Nat → Nat → Nat} (hS : ShS Γ R) : ∀ (s : ryS) (v1 : Int32), f_X12_signed Γ (ryM s R) 102 v1 = Option.map (fun q => (q.1, ryM q.2 R)) (g_X12_signed s v1) := by
  intros
  simp only [f_X12_signed, g_X12_signed, rhck, ryM_1, ryM_2, ryM_3, ry_si, ry_sl, if_true, ry_ck, Option.map_some, Option.map_none, ry_ite, ry_bm, ry_mb, Nat.add_assoc, Nat.reduceAdd, Option.some_bind, Option.bind_some, ssk_102 hS, e_X12_isGood hS, e_X12_stands hS, e_X12_goOn hS, e_X12_signed_29 hS]
def g_X12_readBeside_63 (s : ryS) (v1 : Int32) (v2 : Int32) (v3 : Int32) : Option (ryS) :=
    (g_X12_known s v2).bind fun r7 =>
    let x8 := r7.1
    (g_X12_isWord r7.2 ((512970880104 : Int64))).bind fun r9 =>
    (g_X12_must r7.2 r9).bind fun r10 =>
    (g_X12_signed r10 (99 : Int32)).bind fun r11 =>
    let x12 := r11.1
    (g_X12_isGood r11.2).bind fun r13 =>
    if r13 = 0 then
      (some r11.2)
    else
      rhck (0 ≤ (v3 + x8).toInt ∧ (v3 + x8).toInt < (128 : Nat)) <|
      let s14 := rysi r11.2 116 (v3 + x8 : Int32).toNatClampNeg x12
      rhck (0 ≤ (((64 * (s14.1 102 35)) + (8 * x8)) + v1).toInt ∧ (((64 * (s14.1 102 35)) + (8 * x8)) + v1).toInt < (128 : Nat)) <|
      let s15 := rysi s14 116 (((64 * (s14.1 102 35)) + (8 * x8)) + v1 : Int32).toNatClampNeg x12
      rhck (0 ≤ (v3 + x8).toInt ∧ (v3 + x8).toInt < (128 : Nat)) <|
      let s16 := rysi s15 120 (v3 + x8 : Int32).toNatClampNeg ((vp_nar .boolean 1))
      rhck (0 ≤ (((64 * (s16.1 102 35)) + (8 * x8)) + v1).toInt ∧ (((64 * (s16.1 102 35)) + (8 * x8)) + v1).toInt < (128 : Nat)) <|
      let s17 := rysi s16 120 (((64 * (s16.1 102 35)) + (8 * x8)) + v1 : Int32).toNatClampNeg ((vp_nar .boolean 1))
      rhck (0 ≤ (s17.1 102 35).toInt ∧ (s17.1 102 35).toInt < (2 : Nat)) <|
      let s18 := rysi s17 107 (s17.1 102 35 : Int32).toNatClampNeg (((s17.1 107 (s17.1 102 35).toNatClampNeg) + 1))
      some s18
def g_X12_readBeside_54 (k63 : ryS → Int32 → Int32 → Int32 → Option (ryS)) (s : ryS) (v1 : Int32) (v2 : Int32) (v3 : Int32) : Option (ryS) :=
    (g_X12_fails s (3 : Int32) (s.1 102 6)).bind fun r19 =>
    k63 r19 v1 v2 v3
def g_X12_readBeside (s : ryS) : Option (ryS) :=
    (g_X12_houseHere s).bind fun r1 =>
    (g_X12_known s r1).bind fun r2 =>
    let x3 := r2.1
    (g_X12_houseHere r2.2).bind fun r4 =>
    let x5 := (64 * (r2.2.1 102 35)) + (8 * x3)
    (g_X12_isGood r2.2).bind fun r6 =>
    if r6 = 0 then
      (g_X12_readBeside_63 r2.2 x3 r4 x5)
    else
      if r4 < 0 then
        (g_X12_readBeside_63 r2.2 x3 r4 x5)
      else
        if x3 = r4 then
          (g_X12_readBeside_54 (g_X12_readBeside_63) r2.2 x3 r4 x5)
        else
          rhck (0 ≤ (x5 + r4).toInt ∧ (x5 + r4).toInt < (128 : Nat)) <|
          if (r2.2.1 120 (x5 + r4).toNatClampNeg) = 0 then
            (g_X12_readBeside_63 r2.2 x3 r4 x5)
          else
            g_X12_readBeside_54 (g_X12_readBeside_63) r2.2 x3 r4 x5
set_option maxHeartbeats 400000 in
set_option maxRecDepth 100000 in
theorem e_X12_readBeside_63 {Γ : rhG} {R : Nat → Nat → Nat} (hS : ShS Γ R) : ∀ (s : ryS) (v1 : Int32) (v2 : Int32) (v3 : Int32), f_X12_readBeside_63 Γ (ryM s R) 102 v1 v2 v3 = Option.map (fun s => ryM s R) (g_X12_readBeside_63 s v1 v2 v3) := by
  intros
  simp only [f_X12_readBeside_63, g_X12_readBeside_63, rhck, ryM_1, ryM_2, ryM_3, ry_si, ry_sl, if_true, ry_ck, Option.map_some, Option.map_none, ry_ite, ry_bm, ry_mb, Nat.add_assoc, Nat.reduceAdd, Option.some_bind, Option.bind_some, ssk_102 hS, ssk_107 hS, ssk_116 hS, ssk_120 hS, ssl_107 hS, ssl_116 hS, ssl_120 hS, ssr_102_13 hS, ssr_102_22 hS, ssr_102_26 hS, e_X12_known hS, e_X12_isWord hS, e_X12_must hS, e_X12_signed hS, e_X12_isGood hS]
set_option maxHeartbeats 400000 in
set_option maxRecDepth 100000 in
theorem e_X12_readBeside_54 {Γ : rhG} {R : Nat → Nat → Nat} (hS : ShS Γ R) {f63 : rhM → Nat → Int32 → Int32 → Int32 → Option (rhM)} {k63 : ryS → Int32 → Int32 → Int32 → Option (ryS)} (hk63 : ∀ (s : ryS) (v1 : Int32) (v2 : Int32) (v3 : Int32), f63 (ryM s R) 102 v1 v2 v3 = Option.map (fun s => ryM s R) (k63 s v1 v2 v3)) : ∀ (s : ryS) (v1 : Int32) (v2 : Int32) (v3 : Int32), f_X12_readBeside_54 f63 Γ (ryM s R) 102 v1 v2 v3 = Option.map (fun s => ryM s R) (g_X12_readBeside_54 k63 s v1 v2 v3) := by
  intros
  simp only [f_X12_readBeside_54, g_X12_readBeside_54, rhck, ryM_1, ryM_2, ryM_3, ry_si, ry_sl, if_true, ry_ck, Option.map_some, Option.map_none, ry_ite, ry_bm, ry_mb, Nat.add_assoc, Nat.reduceAdd, Option.some_bind, Option.bind_some, ssk_102 hS, e_X12_fails hS, hk63]
set_option maxHeartbeats 400000 in
set_option maxRecDepth 100000 in
theorem e_X12_readBeside {Γ : rhG} {R : Nat → Nat → Nat} (hS : ShS Γ R) : ∀ (s : ryS), f_X12_readBeside Γ (ryM s R) 102 = Option.map (fun s => ryM s R) (g_X12_readBeside s) := by
  intros
  simp only [f_X12_readBeside, g_X12_readBeside, rhck, ryM_1, ryM_2, ryM_3, ry_si, ry_sl, if_true, ry_ck, Option.map_some, Option.map_none, ry_ite, ry_bm, ry_mb, Nat.add_assoc, Nat.reduceAdd, Option.some_bind, Option.bind_some, ssk_102 hS, ssk_120 hS, ssl_120 hS, ssr_102_26 hS, e_X12_houseHere hS, e_X12_known hS, e_X12_houseHere hS, e_X12_isGood hS, e_X12_readBeside_63 hS, e_X12_readBeside_54 hS (e_X12_readBeside_63 hS)]
def g_X12_readHouse_152 (k121 : ryS → Int32 → Int64 → Int32 → Int32 → Int32 → Option (ryS)) (s : ryS) (v1 : Int32) (v2 : Int64) (v4 : Int32) (v6 : Int32) (w0 : Int32) (w1 : Int32) : Option (ryS) :=
    let x18 := w0 + w1
    let x19 : Int32 := v6 + 1
    k121 s v1 v2 v4 x18 x19
def g_X12_readHouse_121 (k161 : ryS → Int32 → Int64 → Int32 → Int32 → Option (ryS)) : Nat → ryS → Int32 → Int64 → Int32 → Int32 → Int32 → Option (ryS)
  | 0, _, _, _, _, _, _ => none
  | n + 1, s, v1, v2, v4, v5, v6 =>
    if v6 < v1 then
      (rhck (0 ≤ (v6).toInt ∧ (v6).toInt < (16 : Nat)) <|
      if (s.1 115 v6.toNatClampNeg) = v4 then
        (rhck (0 ≤ (v6).toInt ∧ (v6).toInt < (16 : Nat)) <|
        g_X12_readHouse_152 (g_X12_readHouse_121 k161 n) s v1 v2 v4 v6 v5 (s.1 113 v6.toNatClampNeg))
      else
        g_X12_readHouse_152 (g_X12_readHouse_121 k161 n) s v1 v2 v4 v6 v5 0)
    else
      k161 s v1 v2 v4 v5
def g_X12_readHouse_206 (s : ryS) (v1 : Int32) (v2 : Int64) : Option (ryS) :=
    rhck (0 ≤ (v1).toInt ∧ (v1).toInt < (16 : Nat)) <|
    let s22 := rysl s 122 (v1 : Int32).toNatClampNeg v2
    rhck (0 ≤ (s22.1 102 35).toInt ∧ (s22.1 102 35).toInt < (2 : Nat)) <|
    let s23 := rysi s22 106 (s22.1 102 35 : Int32).toNatClampNeg (((s22.1 106 (s22.1 102 35).toNatClampNeg) + 1))
    some s23
def g_X12_readHouse_161 (s : ryS) (v1 : Int32) (v2 : Int64) (v4 : Int32) (v5 : Int32) : Option (ryS) :=
    (g_X12_stands s (59 : Int32)).bind fun r20 =>
    if r20 = 0 then
      ((g_X12_misplaced s).bind fun r21 =>
      g_X12_readHouse_206 r21 v1 v2)
    else
      rhck (0 ≤ ((5 * (s.1 102 35)) + v4).toInt ∧ ((5 * (s.1 102 35)) + v4).toInt < (10 : Nat)) <|
      if (s.1 112 ((5 * (s.1 102 35)) + v4).toNatClampNeg) < v5 then
        ((g_X12_fails s (6 : Int32) (s.1 102 6)).bind fun r24 =>
        g_X12_readHouse_206 r24 v1 v2)
      else
        g_X12_readHouse_206 s v1 v2
def g_X12_readHouse_31 (s : ryS) (v1 : Int32) (w1 : Int32) : Option (ryS) :=
    (g_X12_fresh s w1).bind fun r3 =>
    let x4 := r3.1
    (g_X12_after r3.2 ((119182899770472 : Int64)) (1 : Int32) (9 : Int32)).bind fun r5 =>
    rhck (0 ≤ (v1).toInt ∧ (v1).toInt < (16 : Nat)) <|
    let s6 := rysi r5.2 113 (v1 : Int32).toNatClampNeg r5.1
    (g_X12_after s6 ((131277443786868 : Int64)) (1 : Int32) (99 : Int32)).bind fun r7 =>
    rhck (0 ≤ (v1).toInt ∧ (v1).toInt < (16 : Nat)) <|
    let s8 := rysi r7.2 114 (v1 : Int32).toNatClampNeg r7.1
    (g_X12_isWord s8 ((28526 : Int64))).bind fun r9 =>
    (g_X12_must s8 r9).bind fun r10 =>
    (g_X12_railHere r10).bind fun r11 =>
    (g_X12_known r10 r11).bind fun r12 =>
    let x13 := r12.1
    rhck (0 ≤ (v1).toInt ∧ (v1).toInt < (16 : Nat)) <|
    let s14 := rysi r12.2 115 (v1 : Int32).toNatClampNeg x13
    (g_X12_isGood s14).bind fun r15 =>
    if r15 = 0 then
      (some s14)
    else
      let x16 := s14.1 113 v1.toNatClampNeg
      let x17 := 8 * (s14.1 102 35)
      g_X12_readHouse_121 (g_X12_readHouse_161) rhFU s14 v1 x4 x13 x16 x17
def g_X12_readHouse (s : ryS) : Option (ryS) :=
    rhck (0 ≤ (s.1 102 35).toInt ∧ (s.1 102 35).toInt < (2 : Nat)) <|
    let x1 := (8 * (s.1 102 35)) + (s.1 106 (s.1 102 35).toNatClampNeg)
    (g_X12_houseHere s).bind fun r2 =>
    if r2 < 0 then
      (g_X12_readHouse_31 s x1 0)
    else
      g_X12_readHouse_31 s x1 1
set_option maxHeartbeats 400000 in
set_option maxRecDepth 100000 in
theorem e_X12_readHouse_152 {Γ : rhG} {R : Nat → Nat → Nat} (hS : ShS Γ R) {f121 : rhM → Nat → Int32 → Int64 → Int32 → Int32 → Int32 → Option (rhM)} {k121 : ryS → Int32 → Int64 → Int32 → Int32 → Int32 → Option (ryS)} (hk121 : ∀ (s : ryS) (v1 : Int32) (v2 : Int64) (v4 : Int32) (v5 : Int32) (v6 : Int32), f121 (ryM s R) 102 v1 v2 v4 v5 v6 = Option.map (fun s => ryM s R) (k121 s v1 v2 v4 v5 v6)) : ∀ (s : ryS) (v1 : Int32) (v2 : Int64) (v4 : Int32) (v6 : Int32) (w0 : Int32) (w1 : Int32), f_X12_readHouse_152 f121 Γ (ryM s R) 102 v1 v2 v4 v6 w0 w1 = Option.map (fun s => ryM s R) (g_X12_readHouse_152 k121 s v1 v2 v4 v6 w0 w1) := by
  intros
  simp only [f_X12_readHouse_152, g_X12_readHouse_152, rhck, ryM_1, ryM_2, ryM_3, ry_si, ry_sl, if_true, ry_ck, Option.map_some, Option.map_none, ry_ite, ry_bm, ry_mb, Nat.add_assoc, Nat.reduceAdd, Option.some_bind, Option.bind_some, hk121]
set_option maxHeartbeats 400000 in
set_option maxRecDepth 100000 in
theorem e_X12_readHouse_121 {Γ : rhG} {R : Nat → Nat → Nat} (hS : ShS Γ R) {f161 : rhM → Nat → Int32 → Int64 → Int32 → Int32 → Option (rhM)} {k161 : ryS → Int32 → Int64 → Int32 → Int32 → Option (ryS)} (hk161 : ∀ (s : ryS) (v1 : Int32) (v2 : Int64) (v4 : Int32) (v5 : Int32), f161 (ryM s R) 102 v1 v2 v4 v5 = Option.map (fun s => ryM s R) (k161 s v1 v2 v4 v5)) : ∀ (n : Nat) (s : ryS) (v1 : Int32) (v2 : Int64) (v4 : Int32) (v5 : Int32) (v6 : Int32), f_X12_readHouse_121 f161 Γ n (ryM s R) 102 v1 v2 v4 v5 v6 = Option.map (fun s => ryM s R) (g_X12_readHouse_121 k161 n s v1 v2 v4 v5 v6) := by
  intro n
  induction n with
  | zero => intros; simp only [f_X12_readHouse_121, g_X12_readHouse_121, Option.map_none]
  | succ n ih =>
    intros
    simp only [f_X12_readHouse_121, g_X12_readHouse_121, rhck, ryM_1, ryM_2, ryM_3, ry_si, ry_sl, if_true, ry_ck, Option.map_some, Option.map_none, ry_ite, ry_bm, ry_mb, Nat.add_assoc, Nat.reduceAdd, Option.some_bind, Option.bind_some, ssk_102 hS, ssk_113 hS, ssk_115 hS, ssl_113 hS, ssl_115 hS, ssr_102_19 hS, ssr_102_21 hS, hk161, e_X12_readHouse_152 hS ih, ih]
set_option maxHeartbeats 400000 in
set_option maxRecDepth 100000 in
theorem e_X12_readHouse_206 {Γ : rhG} {R : Nat → Nat → Nat} (hS : ShS Γ R) : ∀ (s : ryS) (v1 : Int32) (v2 : Int64), f_X12_readHouse_206 Γ (ryM s R) 102 v1 v2 = Option.map (fun s => ryM s R) (g_X12_readHouse_206 s v1 v2) := by
  intros
  simp only [f_X12_readHouse_206, g_X12_readHouse_206, rhck, ryM_1, ryM_2, ryM_3, ry_si, ry_sl, if_true, ry_ck, Option.map_some, Option.map_none, ry_ite, ry_bm, ry_mb, Nat.add_assoc, Nat.reduceAdd, Option.some_bind, Option.bind_some, ssk_102 hS, ssk_106 hS, ssk_122 hS, ssl_106 hS, ssl_122 hS, ssr_102_12 hS, ssr_102_28 hS]
set_option maxHeartbeats 400000 in
set_option maxRecDepth 100000 in
theorem e_X12_readHouse_161 {Γ : rhG} {R : Nat → Nat → Nat} (hS : ShS Γ R) : ∀ (s : ryS) (v1 : Int32) (v2 : Int64) (v4 : Int32) (v5 : Int32), f_X12_readHouse_161 Γ (ryM s R) 102 v1 v2 v4 v5 = Option.map (fun s => ryM s R) (g_X12_readHouse_161 s v1 v2 v4 v5) := by
  intros
  simp only [f_X12_readHouse_161, g_X12_readHouse_161, rhck, ryM_1, ryM_2, ryM_3, ry_si, ry_sl, if_true, ry_ck, Option.map_some, Option.map_none, ry_ite, ry_bm, ry_mb, Nat.add_assoc, Nat.reduceAdd, Option.some_bind, Option.bind_some, ssk_102 hS, ssk_112 hS, ssl_112 hS, ssr_102_18 hS, e_X12_stands hS, e_X12_misplaced hS, e_X12_fails hS, e_X12_readHouse_206 hS]
set_option maxHeartbeats 400000 in
set_option maxRecDepth 100000 in
theorem e_X12_readHouse_31 {Γ : rhG} {R : Nat → Nat → Nat} (hS : ShS Γ R) : ∀ (s : ryS) (v1 : Int32) (w1 : Int32), f_X12_readHouse_31 Γ (ryM s R) 102 v1 102 w1 = Option.map (fun s => ryM s R) (g_X12_readHouse_31 s v1 w1) := by
  intros
  simp only [f_X12_readHouse_31, g_X12_readHouse_31, rhck, ryM_1, ryM_2, ryM_3, ry_si, ry_sl, if_true, ry_ck, Option.map_some, Option.map_none, ry_ite, ry_bm, ry_mb, Nat.add_assoc, Nat.reduceAdd, Option.some_bind, Option.bind_some, ssk_102 hS, ssk_113 hS, ssk_114 hS, ssk_115 hS, ssl_113 hS, ssl_114 hS, ssl_115 hS, ssr_102_19 hS, ssr_102_20 hS, ssr_102_21 hS, e_X12_fresh hS, e_X12_after hS, e_X12_after hS, e_X12_isWord hS, e_X12_must hS, e_X12_railHere hS, e_X12_known hS, e_X12_isGood hS, e_X12_readHouse_121 hS (e_X12_readHouse_161 hS), e_X12_readHouse_161 hS]
set_option maxHeartbeats 400000 in
set_option maxRecDepth 100000 in
theorem e_X12_readHouse {Γ : rhG} {R : Nat → Nat → Nat} (hS : ShS Γ R) : ∀ (s : ryS), f_X12_readHouse Γ (ryM s R) 102 = Option.map (fun s => ryM s R) (g_X12_readHouse s) := by
  intros
  simp only [f_X12_readHouse, g_X12_readHouse, rhck, ryM_1, ryM_2, ryM_3, ry_si, ry_sl, if_true, ry_ck, Option.map_some, Option.map_none, ry_ite, ry_bm, ry_mb, Nat.add_assoc, Nat.reduceAdd, Option.some_bind, Option.bind_some, ssk_102 hS, ssk_106 hS, ssl_106 hS, ssr_102_12 hS, e_X12_houseHere hS, e_X12_readHouse_31 hS]
def g_X12_readRail_35 (s : ryS) (v1 : Int32) (w1 : Int32) (w3 : Int32) : Option (ryS) :=
    (g_X12_fresh s w3).bind fun r3 =>
    rhck (0 ≤ (w1).toInt ∧ (w1).toInt < (10 : Nat)) <|
    let s4 := rysl r3.2 121 (w1 : Int32).toNatClampNeg r3.1
    (g_X12_after s4 ((119182899770472 : Int64)) (1 : Int32) (99 : Int32)).bind fun r5 =>
    rhck (0 ≤ (v1).toInt ∧ (v1).toInt < (10 : Nat)) <|
    let s6 := rysi r5.2 112 (v1 : Int32).toNatClampNeg r5.1
    rhck (0 ≤ (s6.1 102 35).toInt ∧ (s6.1 102 35).toInt < (2 : Nat)) <|
    let s7 := rysi s6 105 (s6.1 102 35 : Int32).toNatClampNeg (((s6.1 105 (s6.1 102 35).toNatClampNeg) + 1))
    some s7
def g_X12_readRail (s : ryS) : Option (ryS) :=
    rhck (0 ≤ (s.1 102 35).toInt ∧ (s.1 102 35).toInt < (2 : Nat)) <|
    let x1 := (5 * (s.1 102 35)) + (s.1 105 (s.1 102 35).toNatClampNeg)
    (g_X12_railHere s).bind fun r2 =>
    if r2 < 0 then
      (g_X12_readRail_35 s x1 x1 0)
    else
      g_X12_readRail_35 s x1 x1 1
set_option maxHeartbeats 400000 in
set_option maxRecDepth 100000 in
theorem e_X12_readRail_35 {Γ : rhG} {R : Nat → Nat → Nat} (hS : ShS Γ R) : ∀ (s : ryS) (v1 : Int32) (w1 : Int32) (w3 : Int32), f_X12_readRail_35 Γ (ryM s R) 102 v1 121 w1 102 w3 = Option.map (fun s => ryM s R) (g_X12_readRail_35 s v1 w1 w3) := by
  intros
  simp only [f_X12_readRail_35, g_X12_readRail_35, rhck, ryM_1, ryM_2, ryM_3, ry_si, ry_sl, if_true, ry_ck, Option.map_some, Option.map_none, ry_ite, ry_bm, ry_mb, Nat.add_assoc, Nat.reduceAdd, Option.some_bind, Option.bind_some, ssk_102 hS, ssk_105 hS, ssk_112 hS, ssk_121 hS, ssl_105 hS, ssl_112 hS, ssl_121 hS, ssr_102_11 hS, ssr_102_18 hS, e_X12_fresh hS, e_X12_after hS]
set_option maxHeartbeats 400000 in
set_option maxRecDepth 100000 in
theorem e_X12_readRail {Γ : rhG} {R : Nat → Nat → Nat} (hS : ShS Γ R) : ∀ (s : ryS), f_X12_readRail Γ (ryM s R) 102 = Option.map (fun s => ryM s R) (g_X12_readRail s) := by
  intros
  simp only [f_X12_readRail, g_X12_readRail, rhck, ryM_1, ryM_2, ryM_3, ry_si, ry_sl, if_true, ry_ck, Option.map_some, Option.map_none, ry_ite, ry_bm, ry_mb, Nat.add_assoc, Nat.reduceAdd, Option.some_bind, Option.bind_some, ssk_102 hS, ssk_105 hS, ssl_105 hS, ssr_102_11 hS, ssr_102_27 hS, e_X12_railHere hS, e_X12_readRail_35 hS]
def g_X12_readLine_177 (s : ryS) : Option (ryS) :=
    (g_X12_stands s (59 : Int32)).bind fun r17 =>
    (g_X12_must s r17).bind fun r18 =>
    some r18
def g_X12_readLine_142 (s : ryS) (v1 : Int64) : Option (ryS) :=
    if v1 = ((7102839 : Int64)) then
      (rhck (0 ≤ (s.1 102 35).toInt ∧ (s.1 102 35).toInt < (2 : Nat)) <|
      let s14 := rysi s 119 (s.1 102 35 : Int32).toNatClampNeg ((vp_nar .boolean 1))
      (g_X12_e s14).bind fun r15 =>
      rhck (0 ≤ (r15.1 102 35).toInt ∧ (r15.1 102 35).toInt < (2 : Nat)) <|
      let s16 := rysi r15 111 (r15.1 102 35 : Int32).toNatClampNeg ((r15.1 102 36))
      g_X12_readLine_177 s16)
    else
      g_X12_readLine_177 s
def g_X12_readLine_107 (s : ryS) (v1 : Int64) : Option (ryS) :=
    if v1 = ((431415719795 : Int64)) then
      (rhck (0 ≤ (s.1 102 35).toInt ∧ (s.1 102 35).toInt < (2 : Nat)) <|
      let s11 := rysi s 118 (s.1 102 35 : Int32).toNatClampNeg ((vp_nar .boolean 1))
      (g_X12_numeral s11 (1 : Int32) (999 : Int32)).bind fun r12 =>
      rhck (0 ≤ (s11.1 102 35).toInt ∧ (s11.1 102 35).toInt < (2 : Nat)) <|
      let s13 := rysi r12.2 110 (s11.1 102 35 : Int32).toNatClampNeg r12.1
      g_X12_readLine_142 s13 v1)
    else
      g_X12_readLine_142 s v1
def g_X12_readLine_72 (s : ryS) (v1 : Int64) : Option (ryS) :=
    if v1 = ((1852138347 : Int64)) then
      (rhck (0 ≤ (s.1 102 35).toInt ∧ (s.1 102 35).toInt < (2 : Nat)) <|
      let s8 := rysi s 117 (s.1 102 35 : Int32).toNatClampNeg ((vp_nar .boolean 1))
      (g_X12_numeral s8 (1 : Int32) (999 : Int32)).bind fun r9 =>
      rhck (0 ≤ (s8.1 102 35).toInt ∧ (s8.1 102 35).toInt < (2 : Nat)) <|
      let s10 := rysi r9.2 109 (s8.1 102 35 : Int32).toNatClampNeg r9.1
      g_X12_readLine_107 s10 v1)
    else
      g_X12_readLine_107 s v1
def g_X12_readLine_60 (s : ryS) (v1 : Int64) : Option (ryS) :=
    if v1 = ((108187867505765 : Int64)) then
      ((g_X12_readBeside s).bind fun r7 =>
      g_X12_readLine_72 r7 v1)
    else
      g_X12_readLine_72 s v1
def g_X12_readLine_48 (s : ryS) (v1 : Int64) : Option (ryS) :=
    if v1 = ((448546567013 : Int64)) then
      ((g_X12_readHouse s).bind fun r6 =>
      g_X12_readLine_60 r6 v1)
    else
      g_X12_readLine_60 s v1
def g_X12_readLine_24 (s : ryS) (v1 : Int64) : Option (ryS) :=
    (g_X12_isGood s).bind fun r3 =>
    if r3 = 0 then
      (some s)
    else
      (g_X12_goOn s).bind fun r4 =>
      if v1 = ((1918986604 : Int64)) then
        ((g_X12_readRail r4).bind fun r5 =>
        g_X12_readLine_48 r5 v1)
      else
        g_X12_readLine_48 r4 v1
def g_X12_readLine_20 (k24 : ryS → Int64 → Option (ryS)) (s : ryS) (v1 : Int64) : Option (ryS) :=
    (g_X12_misplaced s).bind fun r19 =>
    k24 r19 v1
def g_X12_readLine (s : ryS) : Option (ryS) :=
    let x1 := s.2 102 10
    if (s.1 102 8) = 3 then
      ((g_X12_isFull s).bind fun r2 =>
      if r2 = 0 then
        (g_X12_readLine_24 s x1)
      else
        g_X12_readLine_20 (g_X12_readLine_24) s x1)
    else
      g_X12_readLine_20 (g_X12_readLine_24) s x1
set_option maxHeartbeats 400000 in
set_option maxRecDepth 100000 in
theorem e_X12_readLine_177 {Γ : rhG} {R : Nat → Nat → Nat} (hS : ShS Γ R) : ∀ (s : ryS), f_X12_readLine_177 Γ (ryM s R) 102 = Option.map (fun s => ryM s R) (g_X12_readLine_177 s) := by
  intros
  simp only [f_X12_readLine_177, g_X12_readLine_177, rhck, ryM_1, ryM_2, ryM_3, ry_si, ry_sl, if_true, ry_ck, Option.map_some, Option.map_none, ry_ite, ry_bm, ry_mb, Nat.add_assoc, Nat.reduceAdd, Option.some_bind, Option.bind_some, ssk_102 hS, e_X12_stands hS, e_X12_must hS]
set_option maxHeartbeats 400000 in
set_option maxRecDepth 100000 in
theorem e_X12_readLine_142 {Γ : rhG} {R : Nat → Nat → Nat} (hS : ShS Γ R) : ∀ (s : ryS) (v1 : Int64), f_X12_readLine_142 Γ (ryM s R) 102 v1 = Option.map (fun s => ryM s R) (g_X12_readLine_142 s v1) := by
  intros
  simp only [f_X12_readLine_142, g_X12_readLine_142, rhck, ryM_1, ryM_2, ryM_3, ry_si, ry_sl, if_true, ry_ck, Option.map_some, Option.map_none, ry_ite, ry_bm, ry_mb, Nat.add_assoc, Nat.reduceAdd, Option.some_bind, Option.bind_some, ssk_102 hS, ssk_111 hS, ssk_119 hS, ssl_111 hS, ssl_119 hS, ssr_102_17 hS, ssr_102_25 hS, e_X12_e hS, e_X12_readLine_177 hS]
set_option maxHeartbeats 400000 in
set_option maxRecDepth 100000 in
theorem e_X12_readLine_107 {Γ : rhG} {R : Nat → Nat → Nat} (hS : ShS Γ R) : ∀ (s : ryS) (v1 : Int64), f_X12_readLine_107 Γ (ryM s R) 102 v1 = Option.map (fun s => ryM s R) (g_X12_readLine_107 s v1) := by
  intros
  simp only [f_X12_readLine_107, g_X12_readLine_107, rhck, ryM_1, ryM_2, ryM_3, ry_si, ry_sl, if_true, ry_ck, Option.map_some, Option.map_none, ry_ite, ry_bm, ry_mb, Nat.add_assoc, Nat.reduceAdd, Option.some_bind, Option.bind_some, ssk_102 hS, ssk_110 hS, ssk_118 hS, ssl_110 hS, ssl_118 hS, ssr_102_16 hS, ssr_102_24 hS, e_X12_numeral hS, e_X12_readLine_142 hS]
set_option maxHeartbeats 400000 in
set_option maxRecDepth 100000 in
theorem e_X12_readLine_72 {Γ : rhG} {R : Nat → Nat → Nat} (hS : ShS Γ R) : ∀ (s : ryS) (v1 : Int64), f_X12_readLine_72 Γ (ryM s R) 102 v1 = Option.map (fun s => ryM s R) (g_X12_readLine_72 s v1) := by
  intros
  simp only [f_X12_readLine_72, g_X12_readLine_72, rhck, ryM_1, ryM_2, ryM_3, ry_si, ry_sl, if_true, ry_ck, Option.map_some, Option.map_none, ry_ite, ry_bm, ry_mb, Nat.add_assoc, Nat.reduceAdd, Option.some_bind, Option.bind_some, ssk_102 hS, ssk_109 hS, ssk_117 hS, ssl_109 hS, ssl_117 hS, ssr_102_15 hS, ssr_102_23 hS, e_X12_numeral hS, e_X12_readLine_107 hS]
set_option maxHeartbeats 400000 in
set_option maxRecDepth 100000 in
theorem e_X12_readLine_60 {Γ : rhG} {R : Nat → Nat → Nat} (hS : ShS Γ R) : ∀ (s : ryS) (v1 : Int64), f_X12_readLine_60 Γ (ryM s R) 102 v1 = Option.map (fun s => ryM s R) (g_X12_readLine_60 s v1) := by
  intros
  simp only [f_X12_readLine_60, g_X12_readLine_60, rhck, ryM_1, ryM_2, ryM_3, ry_si, ry_sl, if_true, ry_ck, Option.map_some, Option.map_none, ry_ite, ry_bm, ry_mb, Nat.add_assoc, Nat.reduceAdd, Option.some_bind, Option.bind_some, ssk_102 hS, e_X12_readBeside hS, e_X12_readLine_72 hS]
set_option maxHeartbeats 400000 in
set_option maxRecDepth 100000 in
theorem e_X12_readLine_48 {Γ : rhG} {R : Nat → Nat → Nat} (hS : ShS Γ R) : ∀ (s : ryS) (v1 : Int64), f_X12_readLine_48 Γ (ryM s R) 102 v1 = Option.map (fun s => ryM s R) (g_X12_readLine_48 s v1) := by
  intros
  simp only [f_X12_readLine_48, g_X12_readLine_48, rhck, ryM_1, ryM_2, ryM_3, ry_si, ry_sl, if_true, ry_ck, Option.map_some, Option.map_none, ry_ite, ry_bm, ry_mb, Nat.add_assoc, Nat.reduceAdd, Option.some_bind, Option.bind_some, ssk_102 hS, e_X12_readHouse hS, e_X12_readLine_60 hS]
set_option maxHeartbeats 400000 in
set_option maxRecDepth 100000 in
theorem e_X12_readLine_24 {Γ : rhG} {R : Nat → Nat → Nat} (hS : ShS Γ R) : ∀ (s : ryS) (v1 : Int64), f_X12_readLine_24 Γ (ryM s R) 102 v1 = Option.map (fun s => ryM s R) (g_X12_readLine_24 s v1) := by
  intros
  simp only [f_X12_readLine_24, g_X12_readLine_24, rhck, ryM_1, ryM_2, ryM_3, ry_si, ry_sl, if_true, ry_ck, Option.map_some, Option.map_none, ry_ite, ry_bm, ry_mb, Nat.add_assoc, Nat.reduceAdd, Option.some_bind, Option.bind_some, ssk_102 hS, e_X12_isGood hS, e_X12_goOn hS, e_X12_readRail hS, e_X12_readLine_48 hS]
set_option maxHeartbeats 400000 in
set_option maxRecDepth 100000 in
theorem e_X12_readLine_20 {Γ : rhG} {R : Nat → Nat → Nat} (hS : ShS Γ R) {f24 : rhM → Nat → Int64 → Option (rhM)} {k24 : ryS → Int64 → Option (ryS)} (hk24 : ∀ (s : ryS) (v1 : Int64), f24 (ryM s R) 102 v1 = Option.map (fun s => ryM s R) (k24 s v1)) : ∀ (s : ryS) (v1 : Int64), f_X12_readLine_20 f24 Γ (ryM s R) 102 v1 = Option.map (fun s => ryM s R) (g_X12_readLine_20 k24 s v1) := by
  intros
  simp only [f_X12_readLine_20, g_X12_readLine_20, rhck, ryM_1, ryM_2, ryM_3, ry_si, ry_sl, if_true, ry_ck, Option.map_some, Option.map_none, ry_ite, ry_bm, ry_mb, Nat.add_assoc, Nat.reduceAdd, Option.some_bind, Option.bind_some, ssk_102 hS, e_X12_misplaced hS, hk24]
set_option maxHeartbeats 400000 in
set_option maxRecDepth 100000 in
theorem e_X12_readLine {Γ : rhG} {R : Nat → Nat → Nat} (hS : ShS Γ R) : ∀ (s : ryS), f_X12_readLine Γ (ryM s R) 102 = Option.map (fun s => ryM s R) (g_X12_readLine s) := by
  intros
  simp only [f_X12_readLine, g_X12_readLine, rhck, ryM_1, ryM_2, ryM_3, ry_si, ry_sl, if_true, ry_ck, Option.map_some, Option.map_none, ry_ite, ry_bm, ry_mb, Nat.add_assoc, Nat.reduceAdd, Option.some_bind, Option.bind_some, ssk_102 hS, e_X12_isFull hS, e_X12_readLine_24 hS, e_X12_readLine_20 hS (e_X12_readLine_24 hS)]
def g_X12_richest_75 (k88 : ryS → Int32 → Int32 → Int32 → Option (Int32 × ryS)) (s : ryS) (v4 : Int32) : Option (Int32 × ryS) :=
    rhck (0 ≤ (v4).toInt ∧ (v4).toInt < (61000 : Nat)) <|
    let x6 := s.1 141 v4.toNatClampNeg
    (g_X12_worthOfRow s).bind fun r7 =>
    k88 s x6 r7 v4
def g_X12_richest_88 (k40 : ryS → Int32 → Int32 → Int32 → Option (Int32 × ryS)) (s : ryS) (v2 : Int32) (v3 : Int32) (v4 : Int32) : Option (Int32 × ryS) :=
    let x8 : Int32 := v4 + 1
    k40 s v2 v3 x8
def g_X12_richest_40 (k94 : ryS → Int32 → Int32 → Option (Int32 × ryS)) : Nat → ryS → Int32 → Int32 → Int32 → Option (Int32 × ryS)
  | 0, _, _, _, _ => none
  | n + 1, s, v2, v3, v4 =>
    if v4 < (s.1 102 60) then
      (rhck (0 ≤ (v4).toInt ∧ (v4).toInt < (61000 : Nat)) <|
      (g_X12_layState s (s.1 141 v4.toNatClampNeg)).bind fun r5 =>
      if v2 < 0 then
        (g_X12_richest_75 (g_X12_richest_88 (g_X12_richest_40 k94 n)) r5 v4)
      else
        (g_X12_worthOfRow r5).bind fun r9 =>
        if v3 < r9 then
          (g_X12_richest_75 (g_X12_richest_88 (g_X12_richest_40 k94 n)) r5 v4)
        else
          g_X12_richest_88 (g_X12_richest_40 k94 n) r5 v2 v3 v4)
    else
      k94 s v2 v3
def g_X12_richest_94 (s : ryS) (v2 : Int32) (v3 : Int32) : Option (Int32 × ryS) :=
    (g_X12_layWay s v2).bind fun r10 =>
    some ((v3, r10))
def g_X12_richest (s : ryS) (v1 : Int32) : Option (Int32 × ryS) :=
    let s1 := rysi s 102 66 0
    (g_X12_isIn s1 v1 (0 : Int32) (30 : Int32)).bind fun r2 =>
    if r2 = 0 then
      (some (((-1000000), s1)))
    else
      (g_X12_isMany s1).bind fun r3 =>
      if r3 = 0 then
        ((g_X12_search s1 (2 : Int32) v1).bind fun r4 =>
        g_X12_richest_40 (g_X12_richest_94) rhFU r4.2 ((-1)) 0 0)
      else
        some (((-1000000), s1))
set_option maxHeartbeats 400000 in
set_option maxRecDepth 100000 in
theorem e_X12_richest_75 {Γ : rhG} {R : Nat → Nat → Nat} (hS : ShS Γ R) {f88 : rhM → Nat → Int32 → Int32 → Int32 → Option (Int32 × rhM)} {k88 : ryS → Int32 → Int32 → Int32 → Option (Int32 × ryS)} (hk88 : ∀ (s : ryS) (v2 : Int32) (v3 : Int32) (v4 : Int32), f88 (ryM s R) 102 v2 v3 v4 = Option.map (fun q => (q.1, ryM q.2 R)) (k88 s v2 v3 v4)) : ∀ (s : ryS) (v4 : Int32), f_X12_richest_75 f88 Γ (ryM s R) 102 v4 = Option.map (fun q => (q.1, ryM q.2 R)) (g_X12_richest_75 k88 s v4) := by
  intros
  simp only [f_X12_richest_75, g_X12_richest_75, rhck, ryM_1, ryM_2, ryM_3, ry_si, ry_sl, if_true, ry_ck, Option.map_some, Option.map_none, ry_ite, ry_bm, ry_mb, Nat.add_assoc, Nat.reduceAdd, Option.some_bind, Option.bind_some, ssk_102 hS, ssk_141 hS, ssl_141 hS, ssr_102_58 hS, e_X12_worthOfRow hS, hk88]
set_option maxHeartbeats 400000 in
set_option maxRecDepth 100000 in
theorem e_X12_richest_88 {Γ : rhG} {R : Nat → Nat → Nat} (hS : ShS Γ R) {f40 : rhM → Nat → Int32 → Int32 → Int32 → Option (Int32 × rhM)} {k40 : ryS → Int32 → Int32 → Int32 → Option (Int32 × ryS)} (hk40 : ∀ (s : ryS) (v2 : Int32) (v3 : Int32) (v4 : Int32), f40 (ryM s R) 102 v2 v3 v4 = Option.map (fun q => (q.1, ryM q.2 R)) (k40 s v2 v3 v4)) : ∀ (s : ryS) (v2 : Int32) (v3 : Int32) (v4 : Int32), f_X12_richest_88 f40 Γ (ryM s R) 102 v2 v3 v4 = Option.map (fun q => (q.1, ryM q.2 R)) (g_X12_richest_88 k40 s v2 v3 v4) := by
  intros
  simp only [f_X12_richest_88, g_X12_richest_88, rhck, ryM_1, ryM_2, ryM_3, ry_si, ry_sl, if_true, ry_ck, Option.map_some, Option.map_none, ry_ite, ry_bm, ry_mb, Nat.add_assoc, Nat.reduceAdd, Option.some_bind, Option.bind_some, hk40]
set_option maxHeartbeats 400000 in
set_option maxRecDepth 100000 in
theorem e_X12_richest_40 {Γ : rhG} {R : Nat → Nat → Nat} (hS : ShS Γ R) {f94 : rhM → Nat → Int32 → Int32 → Option (Int32 × rhM)} {k94 : ryS → Int32 → Int32 → Option (Int32 × ryS)} (hk94 : ∀ (s : ryS) (v2 : Int32) (v3 : Int32), f94 (ryM s R) 102 v2 v3 = Option.map (fun q => (q.1, ryM q.2 R)) (k94 s v2 v3)) : ∀ (n : Nat) (s : ryS) (v2 : Int32) (v3 : Int32) (v4 : Int32), f_X12_richest_40 f94 Γ n (ryM s R) 102 v2 v3 v4 = Option.map (fun q => (q.1, ryM q.2 R)) (g_X12_richest_40 k94 n s v2 v3 v4) := by
  intro n
  induction n with
  | zero => intros; simp only [f_X12_richest_40, g_X12_richest_40, Option.map_none]
  | succ n ih =>
    intros
    simp only [f_X12_richest_40, g_X12_richest_40, rhck, ryM_1, ryM_2, ryM_3, ry_si, ry_sl, if_true, ry_ck, Option.map_some, Option.map_none, ry_ite, ry_bm, ry_mb, Nat.add_assoc, Nat.reduceAdd, Option.some_bind, Option.bind_some, ssk_102 hS, ssk_141 hS, ssl_141 hS, ssr_102_58 hS, e_X12_layState hS, e_X12_worthOfRow hS, hk94, e_X12_richest_75 hS (e_X12_richest_88 hS ih), e_X12_richest_88 hS ih, ih]
set_option maxHeartbeats 400000 in
set_option maxRecDepth 100000 in
theorem e_X12_richest_94 {Γ : rhG} {R : Nat → Nat → Nat} (hS : ShS Γ R) : ∀ (s : ryS) (v2 : Int32) (v3 : Int32), f_X12_richest_94 Γ (ryM s R) 102 v2 v3 = Option.map (fun q => (q.1, ryM q.2 R)) (g_X12_richest_94 s v2 v3) := by
  intros
  simp only [f_X12_richest_94, g_X12_richest_94, rhck, ryM_1, ryM_2, ryM_3, ry_si, ry_sl, if_true, ry_ck, Option.map_some, Option.map_none, ry_ite, ry_bm, ry_mb, Nat.add_assoc, Nat.reduceAdd, Option.some_bind, Option.bind_some, ssk_102 hS, e_X12_layWay hS]
set_option maxHeartbeats 400000 in
set_option maxRecDepth 100000 in
theorem e_X12_richest {Γ : rhG} {R : Nat → Nat → Nat} (hS : ShS Γ R) : ∀ (s : ryS) (v1 : Int32), f_X12_richest Γ (ryM s R) 102 v1 = Option.map (fun q => (q.1, ryM q.2 R)) (g_X12_richest s v1) := by
  intros
  simp only [f_X12_richest, g_X12_richest, rhck, ryM_1, ryM_2, ryM_3, ry_si, ry_sl, if_true, ry_ck, Option.map_some, Option.map_none, ry_ite, ry_bm, ry_mb, Nat.add_assoc, Nat.reduceAdd, Option.some_bind, Option.bind_some, ssk_102 hS, e_X12_isIn, e_X12_isMany hS, e_X12_search hS, e_X12_richest_40 hS (e_X12_richest_94 hS), e_X12_richest_94 hS]
def g_X12_room (s : ryS) (v1 : Int32) : Option (Int32 × ryS) :=
    (g_X12_isRail s v1).bind fun r1 =>
    if r1 = 0 then
      (some (((-1), s)))
    else
      (g_X12_layNow s).bind fun r2 =>
      (g_X12_roomOn r2 v1).bind fun r3 =>
      some ((r3, r2))
set_option maxHeartbeats 400000 in
set_option maxRecDepth 100000 in
theorem e_X12_room {Γ : rhG} {R : Nat → Nat → Nat} (hS : ShS Γ R) : ∀ (s : ryS) (v1 : Int32), f_X12_room Γ (ryM s R) 102 v1 = Option.map (fun q => (q.1, ryM q.2 R)) (g_X12_room s v1) := by
  intros
  simp only [f_X12_room, g_X12_room, rhck, ryM_1, ryM_2, ryM_3, ry_si, ry_sl, if_true, ry_ck, Option.map_some, Option.map_none, ry_ite, ry_bm, ry_mb, Nat.add_assoc, Nat.reduceAdd, Option.some_bind, Option.bind_some, ssk_102 hS, e_X12_isRail hS, e_X12_layNow hS, e_X12_roomOn hS]
def g_X12_sight (s : ryS) (v1 : Int32) (v2 : Int32) (v3 : Int32) (v4 : Int32) : Option (Int32 × ryS) :=
    (g_X12_isIn s v1 (0 : Int32) (3 : Int32)).bind fun r1 =>
    if r1 = 0 then
      (some (((-1), s)))
    else
      (g_X12_isHouse s v2).bind fun r2 =>
      if r2 = 0 then
        (some (((-1), s)))
      else
        (g_X12_isRail s v3).bind fun r3 =>
        if r3 = 0 then
          (some (((-1), s)))
        else
          if (s.1 102 82) = 20 then
            (some (((-1), s)))
          else
            rhck (0 ≤ (s.1 102 82).toInt ∧ (s.1 102 82).toInt < (20 : Nat)) <|
            let s4 := rysi s 149 (s.1 102 82 : Int32).toNatClampNeg v1
            rhck (0 ≤ (s4.1 102 82).toInt ∧ (s4.1 102 82).toInt < (20 : Nat)) <|
            let s5 := rysi s4 150 (s4.1 102 82 : Int32).toNatClampNeg v2
            rhck (0 ≤ (s5.1 102 82).toInt ∧ (s5.1 102 82).toInt < (20 : Nat)) <|
            let s6 := rysi s5 151 (s5.1 102 82 : Int32).toNatClampNeg v3
            rhck (0 ≤ (s6.1 102 82).toInt ∧ (s6.1 102 82).toInt < (20 : Nat)) <|
            let s7 := rysi s6 158 (s6.1 102 82 : Int32).toNatClampNeg ((vp_nar .boolean v4))
            rhck (0 ≤ (s7.1 102 82).toInt ∧ (s7.1 102 82).toInt < (20 : Nat)) <|
            let s8 := rysi s7 152 (s7.1 102 82 : Int32).toNatClampNeg ((s7.1 102 83))
            rhck (0 ≤ (s8.1 102 82).toInt ∧ (s8.1 102 82).toInt < (20 : Nat)) <|
            let s9 := rysi s8 153 (s8.1 102 82 : Int32).toNatClampNeg (((-1)))
            let s10 := rysi s9 102 82 ((s9.1 102 82) + 1)
            some (((s10.1 102 82) - 1, s10))
set_option maxHeartbeats 400000 in
set_option maxRecDepth 100000 in
theorem e_X12_sight {Γ : rhG} {R : Nat → Nat → Nat} (hS : ShS Γ R) : ∀ (s : ryS) (v1 : Int32) (v2 : Int32) (v3 : Int32) (v4 : Int32), f_X12_sight Γ (ryM s R) 102 v1 v2 v3 v4 = Option.map (fun q => (q.1, ryM q.2 R)) (g_X12_sight s v1 v2 v3 v4) := by
  intros
  simp only [f_X12_sight, g_X12_sight, rhck, ryM_1, ryM_2, ryM_3, ry_si, ry_sl, if_true, ry_ck, Option.map_some, Option.map_none, ry_ite, ry_bm, ry_mb, Nat.add_assoc, Nat.reduceAdd, Option.some_bind, Option.bind_some, ssk_102 hS, ssk_149 hS, ssk_150 hS, ssk_151 hS, ssk_152 hS, ssk_153 hS, ssk_158 hS, ssl_149 hS, ssl_150 hS, ssl_151 hS, ssl_152 hS, ssl_153 hS, ssl_158 hS, ssr_102_72 hS, ssr_102_73 hS, ssr_102_74 hS, ssr_102_75 hS, ssr_102_76 hS, ssr_102_81 hS, e_X12_isIn, e_X12_isHouse hS, e_X12_isRail hS]
def g_X12_spare_101 (k36 : ryS → Int32 → Int32 → Int32 → Int32 → Int32 → Option (Int32 × ryS)) (s : ryS) (v1 : Int32) (v2 : Int32) (v3 : Int32) (v4 : Int32) (v5 : Int32) : Option (Int32 × ryS) :=
    let x9 : Int32 := v5 + 1
    k36 s v1 v2 v3 v4 x9
def g_X12_spare_89 (k101 : ryS → Int32 → Int32 → Int32 → Int32 → Int32 → Option (Int32 × ryS)) (s : ryS) (v1 : Int32) (v2 : Int32) (v5 : Int32) (v6 : Int32) : Option (Int32 × ryS) :=
    rhck (0 ≤ (v6).toInt ∧ (v6).toInt < (246960 : Nat)) <|
    let x10 := s.1 139 v6.toNatClampNeg
    k101 s v1 v2 v5 x10 v5
def g_X12_spare_36 (k107 : ryS → Int32 → Int32 → Int32 → Option (Int32 × ryS)) : Nat → ryS → Int32 → Int32 → Int32 → Int32 → Int32 → Option (Int32 × ryS)
  | 0, _, _, _, _, _, _ => none
  | n + 1, s, v1, v2, v3, v4, v5 =>
    (g_X12_railMany s).bind fun r4 =>
    if v5 < r4 then
      (let s5 := rysi s 102 44 v5
      let s6 := rysi s5 102 45 v1
      (g_X12_search s6 (0 : Int32) (246960 : Int32)).bind fun r7 =>
      let x8 := r7.1
      if x8 < 0 then
        (g_X12_spare_101 (g_X12_spare_36 k107 n) r7.2 v1 v2 v3 v4 v5)
      else
        if v3 < 0 then
          (g_X12_spare_89 (g_X12_spare_101 (g_X12_spare_36 k107 n)) r7.2 v1 v2 v5 x8)
        else
          rhck (0 ≤ (x8).toInt ∧ (x8).toInt < (246960 : Nat)) <|
          if (r7.2.1 139 x8.toNatClampNeg) < v4 then
            (g_X12_spare_89 (g_X12_spare_101 (g_X12_spare_36 k107 n)) r7.2 v1 v2 v5 x8)
          else
            g_X12_spare_101 (g_X12_spare_36 k107 n) r7.2 v1 v2 v3 v4 v5)
    else
      k107 s v2 v3 v4
def g_X12_spare_107 (s : ryS) (v2 : Int32) (v3 : Int32) (v4 : Int32) : Option (Int32 × ryS) :=
    let s11 := rysi s 102 44 ((-1))
    if v3 < 0 then
      (some ((v3, s11)))
    else
      if v2 = 0 then
        (some ((v3, s11)))
      else
        some ((v4, s11))
def g_X12_spare (s : ryS) (v1 : Int32) (v2 : Int32) : Option (Int32 × ryS) :=
    (g_X12_isIn s v1 (1 : Int32) (99 : Int32)).bind fun r1 =>
    if r1 = 0 then
      (some (((-1), s)))
    else
      (g_X12_isIn s v2 (0 : Int32) (1 : Int32)).bind fun r2 =>
      if r2 = 0 then
        (some (((-1), s)))
      else
        (g_X12_isMany s).bind fun r3 =>
        if r3 = 0 then
          (g_X12_spare_36 (g_X12_spare_107) rhFU s v1 v2 ((-1)) 0 0)
        else
          some (((-1), s))
set_option maxHeartbeats 400000 in
set_option maxRecDepth 100000 in
theorem e_X12_spare_101 {Γ : rhG} {R : Nat → Nat → Nat} (hS : ShS Γ R) {f36 : rhM → Nat → Int32 → Int32 → Int32 → Int32 → Int32 → Option (Int32 × rhM)} {k36 : ryS → Int32 → Int32 → Int32 → Int32 → Int32 → Option (Int32 × ryS)} (hk36 : ∀ (s : ryS) (v1 : Int32) (v2 : Int32) (v3 : Int32) (v4 : Int32) (v5 : Int32), f36 (ryM s R) 102 v1 v2 v3 v4 v5 = Option.map (fun q => (q.1, ryM q.2 R)) (k36 s v1 v2 v3 v4 v5)) : ∀ (s : ryS) (v1 : Int32) (v2 : Int32) (v3 : Int32) (v4 : Int32) (v5 : Int32), f_X12_spare_101 f36 Γ (ryM s R) 102 v1 v2 v3 v4 v5 = Option.map (fun q => (q.1, ryM q.2 R)) (g_X12_spare_101 k36 s v1 v2 v3 v4 v5) := by
  intros
  simp only [f_X12_spare_101, g_X12_spare_101, rhck, ryM_1, ryM_2, ryM_3, ry_si, ry_sl, if_true, ry_ck, Option.map_some, Option.map_none, ry_ite, ry_bm, ry_mb, Nat.add_assoc, Nat.reduceAdd, Option.some_bind, Option.bind_some, hk36]
set_option maxHeartbeats 400000 in
set_option maxRecDepth 100000 in
theorem e_X12_spare_89 {Γ : rhG} {R : Nat → Nat → Nat} (hS : ShS Γ R) {f101 : rhM → Nat → Int32 → Int32 → Int32 → Int32 → Int32 → Option (Int32 × rhM)} {k101 : ryS → Int32 → Int32 → Int32 → Int32 → Int32 → Option (Int32 × ryS)} (hk101 : ∀ (s : ryS) (v1 : Int32) (v2 : Int32) (v3 : Int32) (v4 : Int32) (v5 : Int32), f101 (ryM s R) 102 v1 v2 v3 v4 v5 = Option.map (fun q => (q.1, ryM q.2 R)) (k101 s v1 v2 v3 v4 v5)) : ∀ (s : ryS) (v1 : Int32) (v2 : Int32) (v5 : Int32) (v6 : Int32), f_X12_spare_89 f101 Γ (ryM s R) 102 v1 v2 v5 v6 = Option.map (fun q => (q.1, ryM q.2 R)) (g_X12_spare_89 k101 s v1 v2 v5 v6) := by
  intros
  simp only [f_X12_spare_89, g_X12_spare_89, rhck, ryM_1, ryM_2, ryM_3, ry_si, ry_sl, if_true, ry_ck, Option.map_some, Option.map_none, ry_ite, ry_bm, ry_mb, Nat.add_assoc, Nat.reduceAdd, Option.some_bind, Option.bind_some, ssk_102 hS, ssk_139 hS, ssl_139 hS, ssr_102_56 hS, hk101]
set_option maxHeartbeats 400000 in
set_option maxRecDepth 100000 in
theorem e_X12_spare_36 {Γ : rhG} {R : Nat → Nat → Nat} (hS : ShS Γ R) {f107 : rhM → Nat → Int32 → Int32 → Int32 → Option (Int32 × rhM)} {k107 : ryS → Int32 → Int32 → Int32 → Option (Int32 × ryS)} (hk107 : ∀ (s : ryS) (v2 : Int32) (v3 : Int32) (v4 : Int32), f107 (ryM s R) 102 v2 v3 v4 = Option.map (fun q => (q.1, ryM q.2 R)) (k107 s v2 v3 v4)) : ∀ (n : Nat) (s : ryS) (v1 : Int32) (v2 : Int32) (v3 : Int32) (v4 : Int32) (v5 : Int32), f_X12_spare_36 f107 Γ n (ryM s R) 102 v1 v2 v3 v4 v5 = Option.map (fun q => (q.1, ryM q.2 R)) (g_X12_spare_36 k107 n s v1 v2 v3 v4 v5) := by
  intro n
  induction n with
  | zero => intros; simp only [f_X12_spare_36, g_X12_spare_36, Option.map_none]
  | succ n ih =>
    intros
    simp only [f_X12_spare_36, g_X12_spare_36, rhck, ryM_1, ryM_2, ryM_3, ry_si, ry_sl, if_true, ry_ck, Option.map_some, Option.map_none, ry_ite, ry_bm, ry_mb, Nat.add_assoc, Nat.reduceAdd, Option.some_bind, Option.bind_some, ssk_102 hS, ssk_139 hS, ssl_139 hS, ssr_102_56 hS, e_X12_railMany hS, e_X12_search hS, hk107, e_X12_spare_101 hS ih, e_X12_spare_89 hS (e_X12_spare_101 hS ih), ih]
set_option maxHeartbeats 400000 in
set_option maxRecDepth 100000 in
theorem e_X12_spare_107 {Γ : rhG} {R : Nat → Nat → Nat} (hS : ShS Γ R) : ∀ (s : ryS) (v2 : Int32) (v3 : Int32) (v4 : Int32), f_X12_spare_107 Γ (ryM s R) 102 v2 v3 v4 = Option.map (fun q => (q.1, ryM q.2 R)) (g_X12_spare_107 s v2 v3 v4) := by
  intros
  simp only [f_X12_spare_107, g_X12_spare_107, rhck, ryM_1, ryM_2, ryM_3, ry_si, ry_sl, if_true, ry_ck, Option.map_some, Option.map_none, ry_ite, ry_bm, ry_mb, Nat.add_assoc, Nat.reduceAdd, Option.some_bind, Option.bind_some, ssk_102 hS]
set_option maxHeartbeats 400000 in
set_option maxRecDepth 100000 in
theorem e_X12_spare {Γ : rhG} {R : Nat → Nat → Nat} (hS : ShS Γ R) : ∀ (s : ryS) (v1 : Int32) (v2 : Int32), f_X12_spare Γ (ryM s R) 102 v1 v2 = Option.map (fun q => (q.1, ryM q.2 R)) (g_X12_spare s v1 v2) := by
  intros
  simp only [f_X12_spare, g_X12_spare, rhck, ryM_1, ryM_2, ryM_3, ry_si, ry_sl, if_true, ry_ck, Option.map_some, Option.map_none, ry_ite, ry_bm, ry_mb, Nat.add_assoc, Nat.reduceAdd, Option.some_bind, Option.bind_some, ssk_102 hS, e_X12_isIn, e_X12_isIn, e_X12_isMany hS, e_X12_spare_36 hS (e_X12_spare_107 hS), e_X12_spare_107 hS]
def g_X12_tell (s : ryS) (v1 : Int32) (v2 : Int32) (v3 : Int32) : Option (Int32 × ryS) :=
    (g_X12_isRail s v1).bind fun r1 =>
    if r1 = 0 then
      (some (((-1), s)))
    else
      (g_X12_isRail s v3).bind fun r2 =>
      if r2 = 0 then
        (some (((-1), s)))
      else
        if v1 = v3 then
          (some (((-1), s)))
        else
          (g_X12_isIn s v2 (1 : Int32) (8 : Int32)).bind fun r3 =>
          if r3 = 0 then
            (some (((-1), s)))
          else
            if (s.1 102 51) = 12 then
              (some (((-1), s)))
            else
              rhck (0 ≤ (s.1 102 51).toInt ∧ (s.1 102 51).toInt < (12 : Nat)) <|
              let s4 := rysi s 135 (s.1 102 51 : Int32).toNatClampNeg ((((100 * v1) + (10 * v2)) + v3))
              let s5 := rysi s4 102 51 ((s4.1 102 51) + 1)
              some ((s5.1 102 51, s5))
set_option maxHeartbeats 400000 in
set_option maxRecDepth 100000 in
theorem e_X12_tell {Γ : rhG} {R : Nat → Nat → Nat} (hS : ShS Γ R) : ∀ (s : ryS) (v1 : Int32) (v2 : Int32) (v3 : Int32), f_X12_tell Γ (ryM s R) 102 v1 v2 v3 = Option.map (fun q => (q.1, ryM q.2 R)) (g_X12_tell s v1 v2 v3) := by
  intros
  simp only [f_X12_tell, g_X12_tell, rhck, ryM_1, ryM_2, ryM_3, ry_si, ry_sl, if_true, ry_ck, Option.map_some, Option.map_none, ry_ite, ry_bm, ry_mb, Nat.add_assoc, Nat.reduceAdd, Option.some_bind, Option.bind_some, ssk_102 hS, ssk_135 hS, ssl_135 hS, ssr_102_50 hS, e_X12_isRail hS, e_X12_isRail hS, e_X12_isIn]
def g_X12_town_20 (k46 : ryS → Option (Int32 × ryS)) : Nat → ryS → Int32 → Option (Int32 × ryS)
  | 0, _, _ => none
  | n + 1, s, v1 =>
    if v1 < (s.1 102 3) then
      (rhck (0 ≤ (v1).toInt ∧ (v1).toInt < (1620 : Nat)) <|
      rhck (0 ≤ (v1).toInt ∧ (v1).toInt < (1600 : Nat)) <|
      let s4 := rysi s 104 (v1 : Int32).toNatClampNeg ((vp_nar .byte (s.1 103 v1.toNatClampNeg)))
      let x5 : Int32 := v1 + 1
      g_X12_town_20 k46 n s4 x5)
    else
      k46 s
def g_X12_town_74 (k95 : ryS → Option (Int32 × ryS)) : Nat → ryS → Option (Int32 × ryS)
  | 0, _ => none
  | n + 1, s =>
    (g_X12_isGood s).bind fun r11 =>
    if r11 = 0 then
      (k95 s)
    else
      if (s.1 102 8) = 0 then
        (k95 s)
      else
        (g_X12_readLine s).bind fun r12 =>
        g_X12_town_74 k95 n r12
def g_X12_town_138 : Nat → ryS → Int32 → Option (Int32 × ryS)
  | 0, _, _ => none
  | n + 1, s, v1 =>
    if v1 < 3 then
      (rhck (0 ≤ (v1).toInt ∧ (v1).toInt < (3 : Nat)) <|
      let s20 := rysi s 159 (v1 : Int32).toNatClampNeg (((-1)))
      let x21 : Int32 := v1 + 1
      g_X12_town_138 n s20 x21)
    else
      rhck (0 ≤ (s.1 102 34).toInt ∧ (s.1 102 34).toInt < (2 : Nat)) <|
      some ((s.1 106 (s.1 102 34).toNatClampNeg, s))
def g_X12_town_95 (s : ryS) : Option (Int32 × ryS) :=
    (g_X12_isGood s).bind fun r13 =>
    if r13 = 0 then
      (some (((-1), s)))
    else
      let s14 := rysi s 102 34 (s.1 102 35)
      (g_X12_begin s14).bind fun r15 =>
      let s16 := rysi r15 102 82 0
      let s17 := rysi s16 102 51 0
      let s18 := rysi s17 102 53 0
      let s19 := rysi s18 102 66 0
      g_X12_town_138 rhFU s19 0
def g_X12_town_46 (s : ryS) : Option (Int32 × ryS) :=
    let s6 := rysi s 102 2 0
    let s7 := rysi s6 102 7 0
    let s8 := rysi s7 102 35 (1 - (s7.1 102 34))
    (g_X12_clearBank s8).bind fun r9 =>
    (g_X12_goOn r9).bind fun r10 =>
    g_X12_town_74 (g_X12_town_95) rhFU r10
def g_X12_town (s : ryS) : Option (Int32 × ryS) :=
    let s1 := rysi s 102 4 0
    let s2 := rysi s1 102 5 ((-1))
    let s3 := rysi s2 102 3 (s2.1 102 2)
    g_X12_town_20 (g_X12_town_46) rhFU s3 0
set_option maxHeartbeats 400000 in
set_option maxRecDepth 100000 in
theorem e_X12_town_20 {Γ : rhG} {R : Nat → Nat → Nat} (hS : ShS Γ R) {f46 : rhM → Nat → Option (Int32 × rhM)} {k46 : ryS → Option (Int32 × ryS)} (hk46 : ∀ (s : ryS), f46 (ryM s R) 102 = Option.map (fun q => (q.1, ryM q.2 R)) (k46 s)) : ∀ (n : Nat) (s : ryS) (v1 : Int32), f_X12_town_20 f46 Γ n (ryM s R) 102 v1 = Option.map (fun q => (q.1, ryM q.2 R)) (g_X12_town_20 k46 n s v1) := by
  intro n
  induction n with
  | zero => intros; simp only [f_X12_town_20, g_X12_town_20, Option.map_none]
  | succ n ih =>
    intros
    simp only [f_X12_town_20, g_X12_town_20, rhck, ryM_1, ryM_2, ryM_3, ry_si, ry_sl, if_true, ry_ck, Option.map_some, Option.map_none, ry_ite, ry_bm, ry_mb, Nat.add_assoc, Nat.reduceAdd, Option.some_bind, Option.bind_some, ssk_102 hS, ssk_103 hS, ssk_104 hS, ssl_103 hS, ssl_104 hS, ssr_102_0 hS, ssr_102_1 hS, hk46, ih]
set_option maxHeartbeats 400000 in
set_option maxRecDepth 100000 in
theorem e_X12_town_74 {Γ : rhG} {R : Nat → Nat → Nat} (hS : ShS Γ R) {f95 : rhM → Nat → Option (Int32 × rhM)} {k95 : ryS → Option (Int32 × ryS)} (hk95 : ∀ (s : ryS), f95 (ryM s R) 102 = Option.map (fun q => (q.1, ryM q.2 R)) (k95 s)) : ∀ (n : Nat) (s : ryS), f_X12_town_74 f95 Γ n (ryM s R) 102 = Option.map (fun q => (q.1, ryM q.2 R)) (g_X12_town_74 k95 n s) := by
  intro n
  induction n with
  | zero => intros; simp only [f_X12_town_74, g_X12_town_74, Option.map_none]
  | succ n ih =>
    intros
    simp only [f_X12_town_74, g_X12_town_74, rhck, ryM_1, ryM_2, ryM_3, ry_si, ry_sl, if_true, ry_ck, Option.map_some, Option.map_none, ry_ite, ry_bm, ry_mb, Nat.add_assoc, Nat.reduceAdd, Option.some_bind, Option.bind_some, ssk_102 hS, e_X12_isGood hS, e_X12_readLine hS, hk95, ih]
set_option maxHeartbeats 400000 in
set_option maxRecDepth 100000 in
theorem e_X12_town_138 {Γ : rhG} {R : Nat → Nat → Nat} (hS : ShS Γ R) : ∀ (n : Nat) (s : ryS) (v1 : Int32), f_X12_town_138 Γ n (ryM s R) 102 v1 = Option.map (fun q => (q.1, ryM q.2 R)) (g_X12_town_138 n s v1) := by
  intro n
  induction n with
  | zero => intros; simp only [f_X12_town_138, g_X12_town_138, Option.map_none]
  | succ n ih =>
    intros
    simp only [f_X12_town_138, g_X12_town_138, rhck, ryM_1, ryM_2, ryM_3, ry_si, ry_sl, if_true, ry_ck, Option.map_some, Option.map_none, ry_ite, ry_bm, ry_mb, Nat.add_assoc, Nat.reduceAdd, Option.some_bind, Option.bind_some, ssk_102 hS, ssk_106 hS, ssk_159 hS, ssl_106 hS, ssl_159 hS, ssr_102_12 hS, ssr_102_84 hS, ih]
set_option maxHeartbeats 400000 in
set_option maxRecDepth 100000 in
theorem e_X12_town_95 {Γ : rhG} {R : Nat → Nat → Nat} (hS : ShS Γ R) : ∀ (s : ryS), f_X12_town_95 Γ (ryM s R) 102 = Option.map (fun q => (q.1, ryM q.2 R)) (g_X12_town_95 s) := by
  intros
  simp only [f_X12_town_95, g_X12_town_95, rhck, ryM_1, ryM_2, ryM_3, ry_si, ry_sl, if_true, ry_ck, Option.map_some, Option.map_none, ry_ite, ry_bm, ry_mb, Nat.add_assoc, Nat.reduceAdd, Option.some_bind, Option.bind_some, ssk_102 hS, e_X12_isGood hS, e_X12_begin hS, e_X12_town_138 hS]
set_option maxHeartbeats 400000 in
set_option maxRecDepth 100000 in
theorem e_X12_town_46 {Γ : rhG} {R : Nat → Nat → Nat} (hS : ShS Γ R) : ∀ (s : ryS), f_X12_town_46 Γ (ryM s R) 102 = Option.map (fun q => (q.1, ryM q.2 R)) (g_X12_town_46 s) := by
  intros
  simp only [f_X12_town_46, g_X12_town_46, rhck, ryM_1, ryM_2, ryM_3, ry_si, ry_sl, if_true, ry_ck, Option.map_some, Option.map_none, ry_ite, ry_bm, ry_mb, Nat.add_assoc, Nat.reduceAdd, Option.some_bind, Option.bind_some, ssk_102 hS, e_X12_clearBank hS, e_X12_goOn hS, e_X12_town_74 hS (e_X12_town_95 hS), e_X12_town_95 hS]
set_option maxHeartbeats 400000 in
set_option maxRecDepth 100000 in
theorem e_X12_town {Γ : rhG} {R : Nat → Nat → Nat} (hS : ShS Γ R) : ∀ (s : ryS), f_X12_town Γ (ryM s R) 102 = Option.map (fun q => (q.1, ryM q.2 R)) (g_X12_town s) := by
  intros
  simp only [f_X12_town, g_X12_town, rhck, ryM_1, ryM_2, ryM_3, ry_si, ry_sl, if_true, ry_ck, Option.map_some, Option.map_none, ry_ite, ry_bm, ry_mb, Nat.add_assoc, Nat.reduceAdd, Option.some_bind, Option.bind_some, ssk_102 hS, e_X12_town_20 hS (e_X12_town_46 hS), e_X12_town_46 hS]
def g_X12_undo_36 (k118 : ryS → Int32 → Option (Int32 × ryS)) : Nat → ryS → Int32 → Int32 → Option (Int32 × ryS)
  | 0, _, _, _ => none
  | n + 1, s, v2, v3 =>
    if v3 < v2 then
      (let s3 := rysi s 102 48 ((s.1 102 48) - 1)
      rhck (0 ≤ (s3.1 102 48).toInt ∧ (s3.1 102 48).toInt < (300 : Nat)) <|
      let s4 := rysi s3 102 49 ((s3.1 102 49) - (s3.1 134 (s3.1 102 48).toNatClampNeg))
      rhck (0 ≤ (s4.1 102 48).toInt ∧ (s4.1 102 48).toInt < (300 : Nat)) <|
      (g_X12_moves s4 ((s4.1 133 (s4.1 102 48).toNatClampNeg) - (s4.1 133 (s4.1 102 48).toNatClampNeg) / 10 * 10) (((s4.1 133 (s4.1 102 48).toNatClampNeg) / 10) - ((s4.1 133 (s4.1 102 48).toNatClampNeg) / 10) / 10 * 10) ((s4.1 133 (s4.1 102 48).toNatClampNeg) / 100)).bind fun r5 =>
      let x6 : Int32 := v3 + 1
      g_X12_undo_36 k118 n r5 v2 x6)
    else
      k118 s v2
def g_X12_undo_118 (s : ryS) (v2 : Int32) : Option (Int32 × ryS) :=
    (g_X12_keepNow s).bind fun r7 =>
    some ((v2, r7))
def g_X12_undo_29 (s : ryS) (w0 : Int32) : Option (Int32 × ryS) :=
    (g_X12_layNow s).bind fun r2 =>
    g_X12_undo_36 (g_X12_undo_118) rhFU r2 w0 0
def g_X12_undo (s : ryS) (v1 : Int32) : Option (Int32 × ryS) :=
    (g_X12_isIn s v1 (0 : Int32) (300 : Int32)).bind fun r1 =>
    if r1 = 0 then
      (some (((-1), s)))
    else
      if v1 < (s.1 102 48) then
        (g_X12_undo_29 s v1)
      else
        g_X12_undo_29 s (s.1 102 48)
set_option maxHeartbeats 400000 in
set_option maxRecDepth 100000 in
theorem e_X12_undo_36 {Γ : rhG} {R : Nat → Nat → Nat} (hS : ShS Γ R) {f118 : rhM → Nat → Int32 → Option (Int32 × rhM)} {k118 : ryS → Int32 → Option (Int32 × ryS)} (hk118 : ∀ (s : ryS) (v2 : Int32), f118 (ryM s R) 102 v2 = Option.map (fun q => (q.1, ryM q.2 R)) (k118 s v2)) : ∀ (n : Nat) (s : ryS) (v2 : Int32) (v3 : Int32), f_X12_undo_36 f118 Γ n (ryM s R) 102 v2 v3 = Option.map (fun q => (q.1, ryM q.2 R)) (g_X12_undo_36 k118 n s v2 v3) := by
  intro n
  induction n with
  | zero => intros; simp only [f_X12_undo_36, g_X12_undo_36, Option.map_none]
  | succ n ih =>
    intros
    simp only [f_X12_undo_36, g_X12_undo_36, rhck, ryM_1, ryM_2, ryM_3, ry_si, ry_sl, if_true, ry_ck, Option.map_some, Option.map_none, ry_ite, ry_bm, ry_mb, Nat.add_assoc, Nat.reduceAdd, Option.some_bind, Option.bind_some, ssk_102 hS, ssk_133 hS, ssk_134 hS, ssl_133 hS, ssl_134 hS, ssr_102_46 hS, ssr_102_47 hS, e_X12_moves hS, hk118, ih]
set_option maxHeartbeats 400000 in
set_option maxRecDepth 100000 in
theorem e_X12_undo_118 {Γ : rhG} {R : Nat → Nat → Nat} (hS : ShS Γ R) : ∀ (s : ryS) (v2 : Int32), f_X12_undo_118 Γ (ryM s R) 102 v2 = Option.map (fun q => (q.1, ryM q.2 R)) (g_X12_undo_118 s v2) := by
  intros
  simp only [f_X12_undo_118, g_X12_undo_118, rhck, ryM_1, ryM_2, ryM_3, ry_si, ry_sl, if_true, ry_ck, Option.map_some, Option.map_none, ry_ite, ry_bm, ry_mb, Nat.add_assoc, Nat.reduceAdd, Option.some_bind, Option.bind_some, ssk_102 hS, e_X12_keepNow hS]
set_option maxHeartbeats 400000 in
set_option maxRecDepth 100000 in
theorem e_X12_undo_29 {Γ : rhG} {R : Nat → Nat → Nat} (hS : ShS Γ R) : ∀ (s : ryS) (w0 : Int32), f_X12_undo_29 Γ (ryM s R) 102 w0 = Option.map (fun q => (q.1, ryM q.2 R)) (g_X12_undo_29 s w0) := by
  intros
  simp only [f_X12_undo_29, g_X12_undo_29, rhck, ryM_1, ryM_2, ryM_3, ry_si, ry_sl, if_true, ry_ck, Option.map_some, Option.map_none, ry_ite, ry_bm, ry_mb, Nat.add_assoc, Nat.reduceAdd, Option.some_bind, Option.bind_some, ssk_102 hS, e_X12_layNow hS, e_X12_undo_36 hS (e_X12_undo_118 hS), e_X12_undo_118 hS]
set_option maxHeartbeats 400000 in
set_option maxRecDepth 100000 in
theorem e_X12_undo {Γ : rhG} {R : Nat → Nat → Nat} (hS : ShS Γ R) : ∀ (s : ryS) (v1 : Int32), f_X12_undo Γ (ryM s R) 102 v1 = Option.map (fun q => (q.1, ryM q.2 R)) (g_X12_undo s v1) := by
  intros
  simp only [f_X12_undo, g_X12_undo, rhck, ryM_1, ryM_2, ryM_3, ry_si, ry_sl, if_true, ry_ck, Option.map_some, Option.map_none, ry_ite, ry_bm, ry_mb, Nat.add_assoc, Nat.reduceAdd, Option.some_bind, Option.bind_some, ssk_102 hS, e_X12_isIn, e_X12_undo_29 hS]
def g_X12_untell (s : ryS) (v1 : Int32) : Option (Int32 × ryS) :=
    (g_X12_isIn s v1 (0 : Int32) ((s.1 102 82) - 1)).bind fun r1 =>
    if r1 = 0 then
      (some ((0, s)))
    else
      rhck (0 ≤ (v1).toInt ∧ (v1).toInt < (20 : Nat)) <|
      if (s.1 153 v1.toNatClampNeg) < 0 then
        (let s2 := rysi s 153 (v1 : Int32).toNatClampNeg ((s.1 102 83))
        some ((1, s2)))
      else
        some ((0, s))
set_option maxHeartbeats 400000 in
set_option maxRecDepth 100000 in
theorem e_X12_untell {Γ : rhG} {R : Nat → Nat → Nat} (hS : ShS Γ R) : ∀ (s : ryS) (v1 : Int32), f_X12_untell Γ (ryM s R) 102 v1 = Option.map (fun q => (q.1, ryM q.2 R)) (g_X12_untell s v1) := by
  intros
  simp only [f_X12_untell, g_X12_untell, rhck, ryM_1, ryM_2, ryM_3, ry_si, ry_sl, if_true, ry_ck, Option.map_some, Option.map_none, ry_ite, ry_bm, ry_mb, Nat.add_assoc, Nat.reduceAdd, Option.some_bind, Option.bind_some, ssk_102 hS, ssk_153 hS, ssl_153 hS, ssr_102_76 hS, e_X12_isIn]
def g_X12_where_28 (k45 : ryS → Int32 → Int32 → Int32 → Option (Int32 × ryS)) : Nat → ryS → Int32 → Int32 → Int32 → Int32 → Option (Int32 × ryS)
  | 0, _, _, _, _, _ => none
  | n + 1, s, v1, v2, v3, v4 =>
    rhck (0 ≤ (v4).toInt ∧ (v4).toInt < (8 : Nat)) <|
    if (s.1 128 v4.toNatClampNeg) = v1 then
      (k45 s v2 v3 v4)
    else
      let x4 : Int32 := v4 + 1
      g_X12_where_28 k45 n s v1 v2 v3 x4
def g_X12_where_45 (k62 : ryS → Int32 → Int32 → Int32 → Option (Int32 × ryS)) : Nat → ryS → Int32 → Int32 → Int32 → Option (Int32 × ryS)
  | 0, _, _, _, _ => none
  | n + 1, s, v2, v3, v4 =>
    rhck (0 ≤ (v3).toInt ∧ (v3).toInt < (6 : Nat)) <|
    if v4 < (s.1 129 v3.toNatClampNeg) then
      (k62 s v2 v3 v4)
    else
      let x5 : Int32 := v3 + 1
      g_X12_where_45 k62 n s v2 x5 v4
def g_X12_where_62 (s : ryS) (v2 : Int32) (v3 : Int32) (v4 : Int32) : Option (Int32 × ryS) :=
    if v2 = 0 then
      (some ((v3, s)))
    else
      (g_X12_beginOf s v3).bind fun r6 =>
      some ((v4 - r6, s))
def g_X12_where (s : ryS) (v1 : Int32) (v2 : Int32) : Option (Int32 × ryS) :=
    (g_X12_isHouse s v1).bind fun r1 =>
    if r1 = 0 then
      (some (((-1), s)))
    else
      (g_X12_isIn s v2 (0 : Int32) (1 : Int32)).bind fun r2 =>
      if r2 = 0 then
        (some (((-1), s)))
      else
        (g_X12_layNow s).bind fun r3 =>
        g_X12_where_28 (g_X12_where_45 (g_X12_where_62) rhFU) rhFU r3 v1 v2 0 0
set_option maxHeartbeats 400000 in
set_option maxRecDepth 100000 in
theorem e_X12_where_28 {Γ : rhG} {R : Nat → Nat → Nat} (hS : ShS Γ R) {f45 : rhM → Nat → Int32 → Int32 → Int32 → Option (Int32 × rhM)} {k45 : ryS → Int32 → Int32 → Int32 → Option (Int32 × ryS)} (hk45 : ∀ (s : ryS) (v2 : Int32) (v3 : Int32) (v4 : Int32), f45 (ryM s R) 102 v2 v3 v4 = Option.map (fun q => (q.1, ryM q.2 R)) (k45 s v2 v3 v4)) : ∀ (n : Nat) (s : ryS) (v1 : Int32) (v2 : Int32) (v3 : Int32) (v4 : Int32), f_X12_where_28 f45 Γ n (ryM s R) 102 v1 v2 v3 v4 = Option.map (fun q => (q.1, ryM q.2 R)) (g_X12_where_28 k45 n s v1 v2 v3 v4) := by
  intro n
  induction n with
  | zero => intros; simp only [f_X12_where_28, g_X12_where_28, Option.map_none]
  | succ n ih =>
    intros
    simp only [f_X12_where_28, g_X12_where_28, rhck, ryM_1, ryM_2, ryM_3, ry_si, ry_sl, if_true, ry_ck, Option.map_some, Option.map_none, ry_ite, ry_bm, ry_mb, Nat.add_assoc, Nat.reduceAdd, Option.some_bind, Option.bind_some, ssk_102 hS, ssk_128 hS, ssl_128 hS, ssr_102_39 hS, hk45, ih]
set_option maxHeartbeats 400000 in
set_option maxRecDepth 100000 in
theorem e_X12_where_45 {Γ : rhG} {R : Nat → Nat → Nat} (hS : ShS Γ R) {f62 : rhM → Nat → Int32 → Int32 → Int32 → Option (Int32 × rhM)} {k62 : ryS → Int32 → Int32 → Int32 → Option (Int32 × ryS)} (hk62 : ∀ (s : ryS) (v2 : Int32) (v3 : Int32) (v4 : Int32), f62 (ryM s R) 102 v2 v3 v4 = Option.map (fun q => (q.1, ryM q.2 R)) (k62 s v2 v3 v4)) : ∀ (n : Nat) (s : ryS) (v2 : Int32) (v3 : Int32) (v4 : Int32), f_X12_where_45 f62 Γ n (ryM s R) 102 v2 v3 v4 = Option.map (fun q => (q.1, ryM q.2 R)) (g_X12_where_45 k62 n s v2 v3 v4) := by
  intro n
  induction n with
  | zero => intros; simp only [f_X12_where_45, g_X12_where_45, Option.map_none]
  | succ n ih =>
    intros
    simp only [f_X12_where_45, g_X12_where_45, rhck, ryM_1, ryM_2, ryM_3, ry_si, ry_sl, if_true, ry_ck, Option.map_some, Option.map_none, ry_ite, ry_bm, ry_mb, Nat.add_assoc, Nat.reduceAdd, Option.some_bind, Option.bind_some, ssk_102 hS, ssk_129 hS, ssl_129 hS, ssr_102_40 hS, hk62, ih]
set_option maxHeartbeats 400000 in
set_option maxRecDepth 100000 in
theorem e_X12_where_62 {Γ : rhG} {R : Nat → Nat → Nat} (hS : ShS Γ R) : ∀ (s : ryS) (v2 : Int32) (v3 : Int32) (v4 : Int32), f_X12_where_62 Γ (ryM s R) 102 v2 v3 v4 = Option.map (fun q => (q.1, ryM q.2 R)) (g_X12_where_62 s v2 v3 v4) := by
  intros
  simp only [f_X12_where_62, g_X12_where_62, rhck, ryM_1, ryM_2, ryM_3, ry_si, ry_sl, if_true, ry_ck, Option.map_some, Option.map_none, ry_ite, ry_bm, ry_mb, Nat.add_assoc, Nat.reduceAdd, Option.some_bind, Option.bind_some, ssk_102 hS, e_X12_beginOf hS]
set_option maxHeartbeats 400000 in
set_option maxRecDepth 100000 in
theorem e_X12_where {Γ : rhG} {R : Nat → Nat → Nat} (hS : ShS Γ R) : ∀ (s : ryS) (v1 : Int32) (v2 : Int32), f_X12_where Γ (ryM s R) 102 v1 v2 = Option.map (fun q => (q.1, ryM q.2 R)) (g_X12_where s v1 v2) := by
  intros
  simp only [f_X12_where, g_X12_where, rhck, ryM_1, ryM_2, ryM_3, ry_si, ry_sl, if_true, ry_ck, Option.map_some, Option.map_none, ry_ite, ry_bm, ry_mb, Nat.add_assoc, Nat.reduceAdd, Option.some_bind, Option.bind_some, ssk_102 hS, e_X12_isHouse hS, e_X12_isIn, e_X12_layNow hS, e_X12_where_28 hS (e_X12_where_45 hS (e_X12_where_62 hS) rhFU), e_X12_where_45 hS (e_X12_where_62 hS), e_X12_where_62 hS]
def g_X12_worth (s : ryS) : Option (Int32 × ryS) :=
    (g_X12_layNow s).bind fun r1 =>
    (g_X12_worthOfRow r1).bind fun r2 =>
    some ((r2, r1))
set_option maxHeartbeats 400000 in
set_option maxRecDepth 100000 in
theorem e_X12_worth {Γ : rhG} {R : Nat → Nat → Nat} (hS : ShS Γ R) : ∀ (s : ryS), f_X12_worth Γ (ryM s R) 102 = Option.map (fun q => (q.1, ryM q.2 R)) (g_X12_worth s) := by
  intros
  simp only [f_X12_worth, g_X12_worth, rhck, ryM_1, ryM_2, ryM_3, ry_si, ry_sl, if_true, ry_ck, Option.map_some, Option.map_none, ry_ite, ry_bm, ry_mb, Nat.add_assoc, Nat.reduceAdd, Option.some_bind, Option.bind_some, ssk_102 hS, e_X12_layNow hS, e_X12_worthOfRow hS]
