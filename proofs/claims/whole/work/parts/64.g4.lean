def g_X11_asked (t : Nat) (s : ryS) (v1 : Int32) (v2 : Int32) (v3 : Int32) : Option (Int32 × ryS) :=
    (g_X11_canBeFrom t s 33 v1 v2 v3).bind fun r1 =>
    if r1 = 0 then
      (some (((-1000000), s)))
    else
      (g_X7_last s 33 v1 v2).bind fun r2 =>
      rhck (0 ≤ (v3).toInt ∧ (v3).toInt < (5 : Nat)) <|
      (g_X9_asks s t v1 r2 v3 (s.1 36 v3.toNatClampNeg)).bind fun r3 =>
      some ((r3.1, r3.2))
set_option maxHeartbeats 400000 in
set_option maxRecDepth 100000 in
theorem e_X11_asked {Γ : rhG} {R : Nat → Nat → Nat} {t : Nat} (hO_9_t : Sh9 Γ R t) (hS : ShS Γ R) (hb_1_3 : R 1 3 = t) : ∀ (s : ryS) (v1 : Int32) (v2 : Int32) (v3 : Int32), f_X11_asked Γ (ryM s R) 1 v1 v2 v3 = Option.map (fun q => (q.1, ryM q.2 R)) (g_X11_asked t s v1 v2 v3) := by
  have z9t := hO_9_t
  obtain ⟨q9t_0, q9t_1, q9t_2, q9t_3, q9t_4, q9t_5, q9t_6, q9t_7, q9t_8, q9t_9, q9t_10, q9t_11, q9t_12, q9t_13, q9t_14, q9t_15, q9t_16, hO_1_t⟩ := z9t
  obtain ⟨q1t_0, q1t_1, q1t_2, q1t_3, q1t_4, q1t_5, q1t_6, q1t_7, q1t_8, q1t_9, q1t_10, q1t_11, q1t_12⟩ := hO_1_t
  intros
  simp only [f_X11_asked, g_X11_asked, rhck, ryM_1, ryM_2, ryM_3, ry_si, ry_sl, if_true, ry_ck, Option.map_some, Option.map_none, ry_ite, ry_bm, ry_mb, Nat.add_assoc, Nat.reduceAdd, Option.some_bind, Option.bind_some, hb_1_3, ssk_1 hS, ssk_33 hS, ssk_36 hS, ssl_36 hS, ssr_1_5 hS, ssr_33_4 hS, q9t_0, q9t_1, q9t_2, q9t_3, q9t_4, q9t_5, q9t_6, q9t_7, q9t_8, q9t_9, q9t_10, q9t_11, q9t_12, q9t_13, q9t_14, q9t_15, q9t_16, q1t_0, q1t_1, q1t_2, q1t_3, q1t_4, q1t_5, q1t_6, q1t_7, q1t_8, q1t_9, q1t_10, q1t_11, q1t_12, e_X11_canBeFrom (sh7_33 hS) hO_9_t hS hb_1_3, e_X7_last (sh7_33 hS), e_X9_asks hO_9_t]
def g_X11_beginTown_58 (t : Nat) : Nat → ryS → Int32 → Option (ryS)
  | 0, _, _ => none
  | n + 1, s, v1 =>
    if v1 < 3 then
      (rhck (0 ≤ (v1).toInt ∧ (v1).toInt < (3 : Nat)) <|
      let s8 := rysl s 53 (v1 : Int32).toNatClampNeg (((-1 : Int64)))
      let x9 : Int32 := v1 + 1
      g_X11_beginTown_58 t n s8 x9)
    else
      some s
def g_X11_beginTown (t : Nat) (s : ryS) : Option (ryS) :=
    (g_X7_look s 33 t (s.2 t 5)).bind fun r1 =>
    (g_X3_clear r1 47).bind fun r2 =>
    (g_X3_clear r2 49).bind fun r3 =>
    (g_X3_clear r3 51).bind fun r4 =>
    let s5 := rysl r4 1 10 ((0 : Int64))
    let s6 := rysi s5 1 11 0
    (g_X6_clear s6).bind fun r7 =>
    g_X11_beginTown_58 t rhFU r7 0
set_option maxHeartbeats 400000 in
set_option maxRecDepth 100000 in
theorem e_X11_beginTown_58 {Γ : rhG} {R : Nat → Nat → Nat} {t : Nat} (hO_3_51 : Sh3 Γ R 51 c cl) (hO_9_t : Sh9 Γ R t) (hS : ShS Γ R) (hb_1_3 : R 1 3 = t) : ∀ (n : Nat) (s : ryS) (v1 : Int32), f_X11_beginTown_58 Γ n (ryM s R) 1 v1 = Option.map (fun s => ryM s R) (g_X11_beginTown_58 t n s v1) := by
  have z351 := hO_3_51
  obtain ⟨q351_0, q351_1, q351_2, q351_3⟩ := z351
  have z9t := hO_9_t
  obtain ⟨q9t_0, q9t_1, q9t_2, q9t_3, q9t_4, q9t_5, q9t_6, q9t_7, q9t_8, q9t_9, q9t_10, q9t_11, q9t_12, q9t_13, q9t_14, q9t_15, q9t_16, hO_1_t⟩ := z9t
  obtain ⟨q1t_0, q1t_1, q1t_2, q1t_3, q1t_4, q1t_5, q1t_6, q1t_7, q1t_8, q1t_9, q1t_10, q1t_11, q1t_12⟩ := hO_1_t
  intro n
  induction n with
  | zero => intros; simp only [f_X11_beginTown_58, g_X11_beginTown_58, Option.map_none]
  | succ n ih =>
    intros
    simp only [f_X11_beginTown_58, g_X11_beginTown_58, rhck, ryM_1, ryM_2, ryM_3, ry_si, ry_sl, if_true, ry_ck, Option.map_some, Option.map_none, ry_ite, ry_bm, ry_mb, Nat.add_assoc, Nat.reduceAdd, Option.some_bind, Option.bind_some, ssk_1 hS, ssk_53 hS, ssl_53 hS, ssr_1_12 hS, q351_0, q351_1, q351_2, q351_3, q9t_0, q9t_1, q9t_2, q9t_3, q9t_4, q9t_5, q9t_6, q9t_7, q9t_8, q9t_9, q9t_10, q9t_11, q9t_12, q9t_13, q9t_14, q9t_15, q9t_16, q1t_0, q1t_1, q1t_2, q1t_3, q1t_4, q1t_5, q1t_6, q1t_7, q1t_8, q1t_9, q1t_10, q1t_11, q1t_12, ih]
set_option maxHeartbeats 400000 in
set_option maxRecDepth 100000 in
theorem e_X11_beginTown {Γ : rhG} {R : Nat → Nat → Nat} {t : Nat} (hO_3_51 : Sh3 Γ R 51 c cl) (hO_9_t : Sh9 Γ R t) (hS : ShS Γ R) (hb_1_3 : R 1 3 = t) : ∀ (s : ryS), f_X11_beginTown Γ (ryM s R) 1 = Option.map (fun s => ryM s R) (g_X11_beginTown t s) := by
  have z351 := hO_3_51
  obtain ⟨q351_0, q351_1, q351_2, q351_3⟩ := z351
  have z9t := hO_9_t
  obtain ⟨q9t_0, q9t_1, q9t_2, q9t_3, q9t_4, q9t_5, q9t_6, q9t_7, q9t_8, q9t_9, q9t_10, q9t_11, q9t_12, q9t_13, q9t_14, q9t_15, q9t_16, hO_1_t⟩ := z9t
  obtain ⟨q1t_0, q1t_1, q1t_2, q1t_3, q1t_4, q1t_5, q1t_6, q1t_7, q1t_8, q1t_9, q1t_10, q1t_11, q1t_12⟩ := hO_1_t
  intros
  simp only [f_X11_beginTown, g_X11_beginTown, rhck, ryM_1, ryM_2, ryM_3, ry_si, ry_sl, if_true, ry_ck, Option.map_some, Option.map_none, ry_ite, ry_bm, ry_mb, Nat.add_assoc, Nat.reduceAdd, Option.some_bind, Option.bind_some, hb_1_3, ssk_1 hS, ssk_33 hS, ssk_47 hS, ssk_49 hS, ssk_51 hS, ssk_55 hS, ssr_1_14 hS, ssr_1_5 hS, ssr_1_7 hS, ssr_1_8 hS, ssr_1_9 hS, q351_0, q351_1, q351_2, q351_3, q9t_0, q9t_1, q9t_2, q9t_3, q9t_4, q9t_5, q9t_6, q9t_7, q9t_8, q9t_9, q9t_10, q9t_11, q9t_12, q9t_13, q9t_14, q9t_15, q9t_16, q1t_0, q1t_1, q1t_2, q1t_3, q1t_4, q1t_5, q1t_6, q1t_7, q1t_8, q1t_9, q1t_10, q1t_11, q1t_12, e_X7_look (sh7_33 hS) hO_9_t, e_X3_clear (sh3_47 hS), e_X3_clear (sh3_49 hS), e_X3_clear hO_3_51, e_X6_clear hS, e_X11_beginTown_58 hO_3_51 hO_9_t hS hb_1_3]
def g_X11_isHouse (t : Nat) (s : ryS) (v1 : Int32) : Option (Int32) :=
    if v1 < 0 then
      (some 0)
    else
      if v1 < (s.1 t 1) then
        (some 1)
      else
        some 0
set_option maxHeartbeats 400000 in
set_option maxRecDepth 100000 in
theorem e_X11_isHouse {Γ : rhG} {R : Nat → Nat → Nat} {t : Nat} (hO_9_t : Sh9 Γ R t) (hS : ShS Γ R) (hb_1_3 : R 1 3 = t) {s : ryS} : ∀ (v1 : Int32), f_X11_isHouse Γ (ryM s R) 1 v1 = g_X11_isHouse t s v1 := by
  have z9t := hO_9_t
  obtain ⟨q9t_0, q9t_1, q9t_2, q9t_3, q9t_4, q9t_5, q9t_6, q9t_7, q9t_8, q9t_9, q9t_10, q9t_11, q9t_12, q9t_13, q9t_14, q9t_15, q9t_16, hO_1_t⟩ := z9t
  obtain ⟨q1t_0, q1t_1, q1t_2, q1t_3, q1t_4, q1t_5, q1t_6, q1t_7, q1t_8, q1t_9, q1t_10, q1t_11, q1t_12⟩ := hO_1_t
  intros
  simp only [f_X11_isHouse, g_X11_isHouse, rhck, ryM_1, ryM_2, ryM_3, ry_si, ry_sl, if_true, ry_ck, Option.map_some, Option.map_none, ry_ite, ry_bm, ry_mb, Nat.add_assoc, Nat.reduceAdd, Option.some_bind, Option.bind_some, hb_1_3, ssk_1 hS, q9t_0, q9t_1, q9t_2, q9t_3, q9t_4, q9t_5, q9t_6, q9t_7, q9t_8, q9t_9, q9t_10, q9t_11, q9t_12, q9t_13, q9t_14, q9t_15, q9t_16, q1t_0, q1t_1, q1t_2, q1t_3, q1t_4, q1t_5, q1t_6, q1t_7, q1t_8, q1t_9, q1t_10, q1t_11, q1t_12]
def g_X11_end (s : ryS) (v1 : Int32) : Option (Int32 × ryS) :=
    if v1 < 0 then
      (some (((-1), s)))
    else
      if (s.1 1 1) < v1 then
        (some (((-1), s)))
      else
        let s1 := rysi s 1 1 v1
        some ((v1, s1))
set_option maxHeartbeats 400000 in
set_option maxRecDepth 100000 in
theorem e_X11_end {Γ : rhG} {R : Nat → Nat → Nat} (hS : ShS Γ R) : ∀ (s : ryS) (v1 : Int32), f_X11_end Γ (ryM s R) 1 v1 = Option.map (fun q => (q.1, ryM q.2 R)) (g_X11_end s v1) := by
  intros
  simp only [f_X11_end, g_X11_end, rhck, ryM_1, ryM_2, ryM_3, ry_si, ry_sl, if_true, ry_ck, Option.map_some, Option.map_none, ry_ite, ry_bm, ry_mb, Nat.add_assoc, Nat.reduceAdd, Option.some_bind, Option.bind_some, ssk_1 hS]
def g_X11_fault (s : ryS) (v1 : Int32) : Option (Int32) :=
    if v1 = 0 then
      (some (s.1 3 0))
    else
    if v1 = 1 then
      (if (s.1 3 0) = 0 then
        (some ((-1)))
      else
        some (s.1 3 1))
    else
    some ((-1))
set_option maxHeartbeats 400000 in
set_option maxRecDepth 100000 in
theorem e_X11_fault {Γ : rhG} {R : Nat → Nat → Nat} (hS : ShS Γ R) {s : ryS} : ∀ (v1 : Int32), f_X11_fault Γ (ryM s R) 1 v1 = g_X11_fault s v1 := by
  intros
  simp only [f_X11_fault, g_X11_fault, rhck, ryM_1, ryM_2, ryM_3, ry_si, ry_sl, if_true, ry_ck, Option.map_some, Option.map_none, ry_ite, ry_bm, ry_mb, Nat.add_assoc, Nat.reduceAdd, Option.some_bind, Option.bind_some, ssk_1 hS, ssk_3 hS, ssr_1_2 hS]
def g_X11_putBytes_3 : Nat → ryS → Int32 → Int32 → Option (ryS)
  | 0, _, _, _ => none
  | n + 1, s, v1, v2 =>
    if v2 < 0 then
      (some s)
    else
      if (s.1 1 1) < (Int32.ofNat (1600 : Nat)) then
        (rhck (0 ≤ (s.1 1 1).toInt ∧ (s.1 1 1).toInt < (1600 : Nat)) <|
        let s1 := rysi s 2 (s.1 1 1 : Int32).toNatClampNeg ((vp_nar .byte ((rhus v1 v2).toInt8.toInt32)))
        let s2 := rysi s1 1 1 ((s1.1 1 1) + 1)
        let x3 : Int32 := v2 + (-8)
        g_X11_putBytes_3 n s2 v1 x3)
      else
        some s
def g_X11_putBytes (s : ryS) (v1 : Int32) : Option (ryS) :=
    g_X11_putBytes_3 rhFU s v1 24
set_option maxHeartbeats 400000 in
set_option maxRecDepth 100000 in
theorem e_X11_putBytes_3 {Γ : rhG} {R : Nat → Nat → Nat} (hS : ShS Γ R) : ∀ (n : Nat) (s : ryS) (v1 : Int32) (v2 : Int32), f_X11_putBytes_3 Γ n (ryM s R) 1 v1 v2 = Option.map (fun s => ryM s R) (g_X11_putBytes_3 n s v1 v2) := by
  intro n
  induction n with
  | zero => intros; simp only [f_X11_putBytes_3, g_X11_putBytes_3, Option.map_none]
  | succ n ih =>
    intros
    simp only [f_X11_putBytes_3, g_X11_putBytes_3, rhck, ryM_1, ryM_2, ryM_3, ry_si, ry_sl, if_true, ry_ck, Option.map_some, Option.map_none, ry_ite, ry_bm, ry_mb, Nat.add_assoc, Nat.reduceAdd, Option.some_bind, Option.bind_some, ssk_1 hS, ssk_2 hS, ssl_2 hS, ssr_1_0 hS, ih]
set_option maxHeartbeats 400000 in
set_option maxRecDepth 100000 in
theorem e_X11_putBytes {Γ : rhG} {R : Nat → Nat → Nat} (hS : ShS Γ R) : ∀ (s : ryS) (v1 : Int32), f_X11_putBytes Γ (ryM s R) 1 v1 = Option.map (fun s => ryM s R) (g_X11_putBytes s v1) := by
  intros
  simp only [f_X11_putBytes, g_X11_putBytes, rhck, ryM_1, ryM_2, ryM_3, ry_si, ry_sl, if_true, ry_ck, Option.map_some, Option.map_none, ry_ite, ry_bm, ry_mb, Nat.add_assoc, Nat.reduceAdd, Option.some_bind, Option.bind_some, e_X11_putBytes_3 hS]
def g_X11_feed (s : ryS) (v1 : Int32) (v2 : Int32) (v3 : Int32) (v4 : Int32) (v5 : Int32) : Option (Int32 × ryS) :=
    if 1600 < ((s.1 1 1) + 20) then
      (some (((-1), s)))
    else
      (g_X11_putBytes s v1).bind fun r1 =>
      (g_X11_putBytes r1 v2).bind fun r2 =>
      (g_X11_putBytes r2 v3).bind fun r3 =>
      (g_X11_putBytes r3 v4).bind fun r4 =>
      (g_X11_putBytes r4 v5).bind fun r5 =>
      some ((r5.1 1 1, r5))
set_option maxHeartbeats 400000 in
set_option maxRecDepth 100000 in
theorem e_X11_feed {Γ : rhG} {R : Nat → Nat → Nat} (hS : ShS Γ R) : ∀ (s : ryS) (v1 : Int32) (v2 : Int32) (v3 : Int32) (v4 : Int32) (v5 : Int32), f_X11_feed Γ (ryM s R) 1 v1 v2 v3 v4 v5 = Option.map (fun q => (q.1, ryM q.2 R)) (g_X11_feed s v1 v2 v3 v4 v5) := by
  intros
  simp only [f_X11_feed, g_X11_feed, rhck, ryM_1, ryM_2, ryM_3, ry_si, ry_sl, if_true, ry_ck, Option.map_some, Option.map_none, ry_ite, ry_bm, ry_mb, Nat.add_assoc, Nat.reduceAdd, Option.some_bind, Option.bind_some, ssk_1 hS, e_X11_putBytes hS, e_X11_putBytes hS, e_X11_putBytes hS, e_X11_putBytes hS, e_X11_putBytes hS]
def g_X11_isSpent (t : Nat) (s : ryS) : Option (Int32) :=
    if 6 < (s.1 t 1) then
      (some 1)
    else
      if 4 < (s.1 t 0) then
        (some 1)
      else
        some 0
set_option maxHeartbeats 400000 in
set_option maxRecDepth 100000 in
theorem e_X11_isSpent {Γ : rhG} {R : Nat → Nat → Nat} {t : Nat} (hO_9_t : Sh9 Γ R t) (hS : ShS Γ R) (hb_1_3 : R 1 3 = t) {s : ryS} : f_X11_isSpent Γ (ryM s R) 1 = g_X11_isSpent t s := by
  have z9t := hO_9_t
  obtain ⟨q9t_0, q9t_1, q9t_2, q9t_3, q9t_4, q9t_5, q9t_6, q9t_7, q9t_8, q9t_9, q9t_10, q9t_11, q9t_12, q9t_13, q9t_14, q9t_15, q9t_16, hO_1_t⟩ := z9t
  obtain ⟨q1t_0, q1t_1, q1t_2, q1t_3, q1t_4, q1t_5, q1t_6, q1t_7, q1t_8, q1t_9, q1t_10, q1t_11, q1t_12⟩ := hO_1_t
  intros
  simp only [f_X11_isSpent, g_X11_isSpent, rhck, ryM_1, ryM_2, ryM_3, ry_si, ry_sl, if_true, ry_ck, Option.map_some, Option.map_none, ry_ite, ry_bm, ry_mb, Nat.add_assoc, Nat.reduceAdd, Option.some_bind, Option.bind_some, hb_1_3, ssk_1 hS, q9t_0, q9t_1, q9t_2, q9t_3, q9t_4, q9t_5, q9t_6, q9t_7, q9t_8, q9t_9, q9t_10, q9t_11, q9t_12, q9t_13, q9t_14, q9t_15, q9t_16, q1t_0, q1t_1, q1t_2, q1t_3, q1t_4, q1t_5, q1t_6, q1t_7, q1t_8, q1t_9, q1t_10, q1t_11, q1t_12]
def g_X11_isInGoal_2 (s : ryS) : Nat → Int32 → Int32 → Option (Int32)
  | 0, _, _ => none
  | n + 1, v1, v2 =>
    if v2 < (s.1 1 11) then
      ((g_X7_digitOf s (s.2 1 10) v2).bind fun r1 =>
      if r1 = v1 then
        (some 1)
      else
        let x2 : Int32 := v2 + 1
        g_X11_isInGoal_2 s n v1 x2)
    else
      some 0
def g_X11_isInGoal (s : ryS) (v1 : Int32) : Option (Int32) :=
    g_X11_isInGoal_2 s rhFU v1 0
set_option maxHeartbeats 400000 in
set_option maxRecDepth 100000 in
theorem e_X11_isInGoal_2 {Γ : rhG} {R : Nat → Nat → Nat} (hS : ShS Γ R) {s : ryS} : ∀ (n : Nat) (v1 : Int32) (v2 : Int32), f_X11_isInGoal_2 Γ (ryM s R) n 1 v1 v2 = g_X11_isInGoal_2 s n v1 v2 := by
  intro n
  induction n with
  | zero => intros; simp only [f_X11_isInGoal_2, g_X11_isInGoal_2, Option.map_none]
  | succ n ih =>
    intros
    simp only [f_X11_isInGoal_2, g_X11_isInGoal_2, rhck, ryM_1, ryM_2, ryM_3, ry_si, ry_sl, if_true, ry_ck, Option.map_some, Option.map_none, ry_ite, ry_bm, ry_mb, Nat.add_assoc, Nat.reduceAdd, Option.some_bind, Option.bind_some, ssk_1 hS, e_X7_digitOf, ih]
set_option maxHeartbeats 400000 in
set_option maxRecDepth 100000 in
theorem e_X11_isInGoal {Γ : rhG} {R : Nat → Nat → Nat} (hS : ShS Γ R) {s : ryS} : ∀ (v1 : Int32), f_X11_isInGoal Γ (ryM s R) 1 v1 = g_X11_isInGoal s v1 := by
  intros
  simp only [f_X11_isInGoal, g_X11_isInGoal, rhck, ryM_1, ryM_2, ryM_3, ry_si, ry_sl, if_true, ry_ck, Option.map_some, Option.map_none, ry_ite, ry_bm, ry_mb, Nat.add_assoc, Nat.reduceAdd, Option.some_bind, Option.bind_some, e_X11_isInGoal_2 hS]
def g_X11_goal (t : Nat) (s : ryS) (v1 : Int32) : Option (Int32 × ryS) :=
    (g_X11_isHouse t s v1).bind fun r1 =>
    if r1 = 0 then
      (some (((-1), s)))
    else
      (g_X11_isInGoal s v1).bind fun r2 =>
      if r2 = 0 then
        (if (s.1 1 11) < 8 then
          (let s3 := rysl s 1 10 ((s.2 1 10) ||| (rhsh (Int32.toInt64 v1) (4 * (s.1 1 11))))
          let s4 := rysi s3 1 11 ((s3.1 1 11) + 1)
          some ((s4.1 1 11, s4)))
        else
          some (((-1), s)))
      else
        some (((-1), s))
set_option maxHeartbeats 400000 in
set_option maxRecDepth 100000 in
theorem e_X11_goal {Γ : rhG} {R : Nat → Nat → Nat} {t : Nat} (hO_9_t : Sh9 Γ R t) (hS : ShS Γ R) (hb_1_3 : R 1 3 = t) : ∀ (s : ryS) (v1 : Int32), f_X11_goal Γ (ryM s R) 1 v1 = Option.map (fun q => (q.1, ryM q.2 R)) (g_X11_goal t s v1) := by
  have z9t := hO_9_t
  obtain ⟨q9t_0, q9t_1, q9t_2, q9t_3, q9t_4, q9t_5, q9t_6, q9t_7, q9t_8, q9t_9, q9t_10, q9t_11, q9t_12, q9t_13, q9t_14, q9t_15, q9t_16, hO_1_t⟩ := z9t
  obtain ⟨q1t_0, q1t_1, q1t_2, q1t_3, q1t_4, q1t_5, q1t_6, q1t_7, q1t_8, q1t_9, q1t_10, q1t_11, q1t_12⟩ := hO_1_t
  intros
  simp only [f_X11_goal, g_X11_goal, rhck, ryM_1, ryM_2, ryM_3, ry_si, ry_sl, if_true, ry_ck, Option.map_some, Option.map_none, ry_ite, ry_bm, ry_mb, Nat.add_assoc, Nat.reduceAdd, Option.some_bind, Option.bind_some, ssk_1 hS, q9t_0, q9t_1, q9t_2, q9t_3, q9t_4, q9t_5, q9t_6, q9t_7, q9t_8, q9t_9, q9t_10, q9t_11, q9t_12, q9t_13, q9t_14, q9t_15, q9t_16, q1t_0, q1t_1, q1t_2, q1t_3, q1t_4, q1t_5, q1t_6, q1t_7, q1t_8, q1t_9, q1t_10, q1t_11, q1t_12, e_X11_isHouse hO_9_t hS hb_1_3, e_X11_isInGoal hS]
def g_X11_hush (s : ryS) : Option (Int32 × ryS) :=
    let x1 := s.1 49 1
    (g_X3_clear s 49).bind fun r2 =>
    some ((x1, r2))
set_option maxHeartbeats 400000 in
set_option maxRecDepth 100000 in
theorem e_X11_hush {Γ : rhG} {R : Nat → Nat → Nat} (hS : ShS Γ R) : ∀ (s : ryS), f_X11_hush Γ (ryM s R) 1 = Option.map (fun q => (q.1, ryM q.2 R)) (g_X11_hush s) := by
  intros
  simp only [f_X11_hush, g_X11_hush, rhck, ryM_1, ryM_2, ryM_3, ry_si, ry_sl, if_true, ry_ck, Option.map_some, Option.map_none, ry_ite, ry_bm, ry_mb, Nat.add_assoc, Nat.reduceAdd, Option.some_bind, Option.bind_some, ssk_1 hS, ssk_49 hS, ssr_1_8 hS, e_X3_clear (sh3_49 hS)]
def g_X11_isLawfulFrom (t : Nat) (s : ryS) (v1 : Nat) (v2 : Int32) (v3 : Int32) (v4 : Int32) : Option (Int32 × ryS) :=
    (g_X11_canBeFrom t s v1 v2 v3 v4).bind fun r1 =>
    if r1 = 0 then
      (some ((0, s)))
    else
      (g_X7_last s v1 v2 v3).bind fun r2 =>
      rhck (0 ≤ (v4).toInt ∧ (v4).toInt < (5 : Nat)) <|
      (g_X9_allows s t v2 r2 v4 (s.1 ((v1 + 3)) v4.toNatClampNeg)).bind fun r3 =>
      if r3.1 = 0 then
        (some ((0, r3.2)))
      else
        some ((1, r3.2))
set_option maxHeartbeats 400000 in
set_option maxRecDepth 100000 in
theorem e_X11_isLawfulFrom {Γ : rhG} {R : Nat → Nat → Nat} {t : Nat} {v1 : Nat} (hO_7_v1 : Sh7 Γ R v1) (hO_9_t : Sh9 Γ R t) (hS : ShS Γ R) (hb_1_3 : R 1 3 = t) : ∀ (s : ryS) (v2 : Int32) (v3 : Int32) (v4 : Int32), f_X11_isLawfulFrom Γ (ryM s R) 1 v1 v2 v3 v4 = Option.map (fun q => (q.1, ryM q.2 R)) (g_X11_isLawfulFrom t s v1 v2 v3 v4) := by
  have z7v1 := hO_7_v1
  obtain ⟨q7v1_0, q7v1_1, q7v1_2, q7v1_3, q7v1_4, q7v1_5, q7v1_6, q7v1_7, q7v1_8, q7v1_9, q7v1_10, q7v1_11, q7v1_12, q7v1_13, q7v1_14, q7v1_15, q7v1_16, q7v1_17, q7v1_18⟩ := z7v1
  have z9t := hO_9_t
  obtain ⟨q9t_0, q9t_1, q9t_2, q9t_3, q9t_4, q9t_5, q9t_6, q9t_7, q9t_8, q9t_9, q9t_10, q9t_11, q9t_12, q9t_13, q9t_14, q9t_15, q9t_16, hO_1_t⟩ := z9t
  obtain ⟨q1t_0, q1t_1, q1t_2, q1t_3, q1t_4, q1t_5, q1t_6, q1t_7, q1t_8, q1t_9, q1t_10, q1t_11, q1t_12⟩ := hO_1_t
  intros
  simp only [f_X11_isLawfulFrom, g_X11_isLawfulFrom, rhck, ryM_1, ryM_2, ryM_3, ry_si, ry_sl, if_true, ry_ck, Option.map_some, Option.map_none, ry_ite, ry_bm, ry_mb, Nat.add_assoc, Nat.reduceAdd, Option.some_bind, Option.bind_some, hb_1_3, ssk_1 hS, q7v1_0, q7v1_1, q7v1_2, q7v1_3, q7v1_4, q7v1_5, q7v1_6, q7v1_7, q7v1_8, q7v1_9, q7v1_10, q7v1_11, q7v1_12, q7v1_13, q7v1_14, q7v1_15, q7v1_16, q7v1_17, q7v1_18, q9t_0, q9t_1, q9t_2, q9t_3, q9t_4, q9t_5, q9t_6, q9t_7, q9t_8, q9t_9, q9t_10, q9t_11, q9t_12, q9t_13, q9t_14, q9t_15, q9t_16, q1t_0, q1t_1, q1t_2, q1t_3, q1t_4, q1t_5, q1t_6, q1t_7, q1t_8, q1t_9, q1t_10, q1t_11, q1t_12, e_X11_canBeFrom hO_7_v1 hO_9_t hS hb_1_3, e_X7_last hO_7_v1, e_X9_allows hO_9_t]
def g_X11_judge_25 (t : Nat) (k99 : ryS → Int32 → Int32 → Int32 → Option (Int32 × ryS)) (k157 : ryS → Int32 → Int32 → Int32 → Option (Int32 × ryS)) : Nat → ryS → Int32 → Int32 → Int32 → Int32 → Option (Int32 × ryS)
  | 0, _, _, _, _, _ => none
  | n + 1, s, v1, v2, v3, v4 =>
    if v4 < (s.1 49 1) then
      (rhck (0 ≤ (v4).toInt ∧ (v4).toInt < (12 : Nat)) <|
      (g_X3_fromOf s (s.1 50 v4.toNatClampNeg)).bind fun r2 =>
      (g_X3_manyOf s (s.1 50 v4.toNatClampNeg)).bind fun r3 =>
      (g_X3_toOf s (s.1 50 v4.toNatClampNeg)).bind fun r4 =>
      (g_X11_isLawfulFrom t s 40 r2 r3 r4).bind fun r5 =>
      if r5.1 = 0 then
        (k99 r5.2 v1 v2 v3)
      else
        (g_X7_last r5.2 40 r2 r3).bind fun r6 =>
        rhck (0 ≤ (r6).toInt ∧ (r6).toInt < (256 : Nat)) <|
        let x7 := v2 + (r5.2.1 ((t + 3)) r6.toNatClampNeg)
        (g_X7_after r5.2 40 r2 r3 r4).bind fun r8 =>
        (g_X7_look r5.2 40 t r8).bind fun r9 =>
        let x10 : Int32 := v3 + 1
        let x11 : Int32 := v4 + 1
        g_X11_judge_25 t k99 k157 n r9 v1 x7 x10 x11)
    else
      k157 s v1 v2 v3
def g_X11_judge_99 (t : Nat) (k157 : ryS → Int32 → Int32 → Int32 → Option (Int32 × ryS)) (s : ryS) (v1 : Int32) (v2 : Int32) (v3 : Int32) : Option (Int32 × ryS) :=
    k157 s v1 v2 v3
def g_X11_judge_157 (t : Nat) (s : ryS) (v1 : Int32) (v2 : Int32) (v3 : Int32) : Option (Int32 × ryS) :=
    if v1 = 0 then
      (if v3 = (s.1 49 1) then
        (some (((-1), s)))
      else
        some ((v3, s)))
    else
    if v1 = 1 then
      (some ((v2, s)))
    else
    if v1 = 2 then
      ((g_X9_worthOf s t (s.2 40 0)).bind fun r12 =>
      some ((r12, s)))
    else
    some (((-1000000), s))
def g_X11_judge (t : Nat) (s : ryS) (v1 : Int32) : Option (Int32 × ryS) :=
    (g_X7_look s 40 t (s.2 33 0)).bind fun r1 =>
    g_X11_judge_25 t (g_X11_judge_99 t (g_X11_judge_157 t)) (g_X11_judge_157 t) rhFU r1 v1 0 0 0
set_option maxHeartbeats 400000 in
set_option maxRecDepth 100000 in
theorem e_X11_judge_25 {Γ : rhG} {R : Nat → Nat → Nat} {t : Nat} (hO_9_t : Sh9 Γ R t) (hS : ShS Γ R) (hb_1_3 : R 1 3 = t) {f99 : rhM → Nat → Int32 → Int32 → Int32 → Option (Int32 × rhM)} {k99 : ryS → Int32 → Int32 → Int32 → Option (Int32 × ryS)} {f157 : rhM → Nat → Int32 → Int32 → Int32 → Option (Int32 × rhM)} {k157 : ryS → Int32 → Int32 → Int32 → Option (Int32 × ryS)} (hk99 : ∀ (s : ryS) (v1 : Int32) (v2 : Int32) (v3 : Int32), f99 (ryM s R) 1 v1 v2 v3 = Option.map (fun q => (q.1, ryM q.2 R)) (k99 s v1 v2 v3)) (hk157 : ∀ (s : ryS) (v1 : Int32) (v2 : Int32) (v3 : Int32), f157 (ryM s R) 1 v1 v2 v3 = Option.map (fun q => (q.1, ryM q.2 R)) (k157 s v1 v2 v3)) : ∀ (n : Nat) (s : ryS) (v1 : Int32) (v2 : Int32) (v3 : Int32) (v4 : Int32), f_X11_judge_25 f99 f157 Γ n (ryM s R) 1 v1 v2 v3 v4 = Option.map (fun q => (q.1, ryM q.2 R)) (g_X11_judge_25 t k99 k157 n s v1 v2 v3 v4) := by
  have z9t := hO_9_t
  obtain ⟨q9t_0, q9t_1, q9t_2, q9t_3, q9t_4, q9t_5, q9t_6, q9t_7, q9t_8, q9t_9, q9t_10, q9t_11, q9t_12, q9t_13, q9t_14, q9t_15, q9t_16, hO_1_t⟩ := z9t
  obtain ⟨q1t_0, q1t_1, q1t_2, q1t_3, q1t_4, q1t_5, q1t_6, q1t_7, q1t_8, q1t_9, q1t_10, q1t_11, q1t_12⟩ := hO_1_t
  intro n
  induction n with
  | zero => intros; simp only [f_X11_judge_25, g_X11_judge_25, Option.map_none]
  | succ n ih =>
    intros
    simp only [f_X11_judge_25, g_X11_judge_25, rhck, ryM_1, ryM_2, ryM_3, ry_si, ry_sl, if_true, ry_ck, Option.map_some, Option.map_none, ry_ite, ry_bm, ry_mb, Nat.add_assoc, Nat.reduceAdd, Option.some_bind, Option.bind_some, hb_1_3, ssk_1 hS, ssk_40 hS, ssk_49 hS, ssk_50 hS, ssl_50 hS, ssr_1_6 hS, ssr_1_8 hS, ssr_49_0 hS, q9t_0, q9t_1, q9t_2, q9t_3, q9t_4, q9t_5, q9t_6, q9t_7, q9t_8, q9t_9, q9t_10, q9t_11, q9t_12, q9t_13, q9t_14, q9t_15, q9t_16, q1t_0, q1t_1, q1t_2, q1t_3, q1t_4, q1t_5, q1t_6, q1t_7, q1t_8, q1t_9, q1t_10, q1t_11, q1t_12, e_X3_fromOf, e_X3_manyOf, e_X3_toOf, e_X11_isLawfulFrom (sh7_40 hS) hO_9_t hS hb_1_3, e_X7_last (sh7_40 hS), e_X7_after (sh7_40 hS), e_X7_look (sh7_40 hS) hO_9_t, hk99, hk157, ih]
set_option maxHeartbeats 400000 in
set_option maxRecDepth 100000 in
theorem e_X11_judge_99 {Γ : rhG} {R : Nat → Nat → Nat} {t : Nat} (hO_9_t : Sh9 Γ R t) (hS : ShS Γ R) (hb_1_3 : R 1 3 = t) {f157 : rhM → Nat → Int32 → Int32 → Int32 → Option (Int32 × rhM)} {k157 : ryS → Int32 → Int32 → Int32 → Option (Int32 × ryS)} (hk157 : ∀ (s : ryS) (v1 : Int32) (v2 : Int32) (v3 : Int32), f157 (ryM s R) 1 v1 v2 v3 = Option.map (fun q => (q.1, ryM q.2 R)) (k157 s v1 v2 v3)) : ∀ (s : ryS) (v1 : Int32) (v2 : Int32) (v3 : Int32), f_X11_judge_99 f157 Γ (ryM s R) 1 v1 v2 v3 = Option.map (fun q => (q.1, ryM q.2 R)) (g_X11_judge_99 t k157 s v1 v2 v3) := by
  have z9t := hO_9_t
  obtain ⟨q9t_0, q9t_1, q9t_2, q9t_3, q9t_4, q9t_5, q9t_6, q9t_7, q9t_8, q9t_9, q9t_10, q9t_11, q9t_12, q9t_13, q9t_14, q9t_15, q9t_16, hO_1_t⟩ := z9t
  obtain ⟨q1t_0, q1t_1, q1t_2, q1t_3, q1t_4, q1t_5, q1t_6, q1t_7, q1t_8, q1t_9, q1t_10, q1t_11, q1t_12⟩ := hO_1_t
  intros
  simp only [f_X11_judge_99, g_X11_judge_99, rhck, ryM_1, ryM_2, ryM_3, ry_si, ry_sl, if_true, ry_ck, Option.map_some, Option.map_none, ry_ite, ry_bm, ry_mb, Nat.add_assoc, Nat.reduceAdd, Option.some_bind, Option.bind_some, q9t_0, q9t_1, q9t_2, q9t_3, q9t_4, q9t_5, q9t_6, q9t_7, q9t_8, q9t_9, q9t_10, q9t_11, q9t_12, q9t_13, q9t_14, q9t_15, q9t_16, q1t_0, q1t_1, q1t_2, q1t_3, q1t_4, q1t_5, q1t_6, q1t_7, q1t_8, q1t_9, q1t_10, q1t_11, q1t_12, hk157]
set_option maxHeartbeats 400000 in
set_option maxRecDepth 100000 in
theorem e_X11_judge_157 {Γ : rhG} {R : Nat → Nat → Nat} {t : Nat} (hO_9_t : Sh9 Γ R t) (hS : ShS Γ R) (hb_1_3 : R 1 3 = t) : ∀ (s : ryS) (v1 : Int32) (v2 : Int32) (v3 : Int32), f_X11_judge_157 Γ (ryM s R) 1 v1 v2 v3 = Option.map (fun q => (q.1, ryM q.2 R)) (g_X11_judge_157 t s v1 v2 v3) := by
  have z9t := hO_9_t
  obtain ⟨q9t_0, q9t_1, q9t_2, q9t_3, q9t_4, q9t_5, q9t_6, q9t_7, q9t_8, q9t_9, q9t_10, q9t_11, q9t_12, q9t_13, q9t_14, q9t_15, q9t_16, hO_1_t⟩ := z9t
  obtain ⟨q1t_0, q1t_1, q1t_2, q1t_3, q1t_4, q1t_5, q1t_6, q1t_7, q1t_8, q1t_9, q1t_10, q1t_11, q1t_12⟩ := hO_1_t
  intros
  simp only [f_X11_judge_157, g_X11_judge_157, rhck, ryM_1, ryM_2, ryM_3, ry_si, ry_sl, if_true, ry_ck, Option.map_some, Option.map_none, ry_ite, ry_bm, ry_mb, Nat.add_assoc, Nat.reduceAdd, Option.some_bind, Option.bind_some, hb_1_3, ssk_1 hS, ssk_40 hS, ssk_49 hS, ssr_1_6 hS, ssr_1_8 hS, q9t_0, q9t_1, q9t_2, q9t_3, q9t_4, q9t_5, q9t_6, q9t_7, q9t_8, q9t_9, q9t_10, q9t_11, q9t_12, q9t_13, q9t_14, q9t_15, q9t_16, q1t_0, q1t_1, q1t_2, q1t_3, q1t_4, q1t_5, q1t_6, q1t_7, q1t_8, q1t_9, q1t_10, q1t_11, q1t_12, e_X9_worthOf hO_9_t]
set_option maxHeartbeats 400000 in
set_option maxRecDepth 100000 in
theorem e_X11_judge {Γ : rhG} {R : Nat → Nat → Nat} {t : Nat} (hO_9_t : Sh9 Γ R t) (hS : ShS Γ R) (hb_1_3 : R 1 3 = t) : ∀ (s : ryS) (v1 : Int32), f_X11_judge Γ (ryM s R) 1 v1 = Option.map (fun q => (q.1, ryM q.2 R)) (g_X11_judge t s v1) := by
  have z9t := hO_9_t
  obtain ⟨q9t_0, q9t_1, q9t_2, q9t_3, q9t_4, q9t_5, q9t_6, q9t_7, q9t_8, q9t_9, q9t_10, q9t_11, q9t_12, q9t_13, q9t_14, q9t_15, q9t_16, hO_1_t⟩ := z9t
  obtain ⟨q1t_0, q1t_1, q1t_2, q1t_3, q1t_4, q1t_5, q1t_6, q1t_7, q1t_8, q1t_9, q1t_10, q1t_11, q1t_12⟩ := hO_1_t
  intros
  simp only [f_X11_judge, g_X11_judge, rhck, ryM_1, ryM_2, ryM_3, ry_si, ry_sl, if_true, ry_ck, Option.map_some, Option.map_none, ry_ite, ry_bm, ry_mb, Nat.add_assoc, Nat.reduceAdd, Option.some_bind, Option.bind_some, hb_1_3, ssk_1 hS, ssk_33 hS, ssk_40 hS, ssr_1_5 hS, ssr_1_6 hS, q9t_0, q9t_1, q9t_2, q9t_3, q9t_4, q9t_5, q9t_6, q9t_7, q9t_8, q9t_9, q9t_10, q9t_11, q9t_12, q9t_13, q9t_14, q9t_15, q9t_16, q1t_0, q1t_1, q1t_2, q1t_3, q1t_4, q1t_5, q1t_6, q1t_7, q1t_8, q1t_9, q1t_10, q1t_11, q1t_12, e_X7_look (sh7_40 hS) hO_9_t, e_X11_judge_25 hO_9_t hS hb_1_3 (e_X11_judge_99 hO_9_t hS hb_1_3 (e_X11_judge_157 hO_9_t hS hb_1_3)) (e_X11_judge_157 hO_9_t hS hb_1_3), e_X11_judge_99 hO_9_t hS hb_1_3 (e_X11_judge_157 hO_9_t hS hb_1_3), e_X11_judge_157 hO_9_t hS hb_1_3]
def g_X11_later (s : ryS) (v1 : Int32) : Option (Int32 × ryS) :=
    if v1 < 0 then
      (some (((-1), s)))
    else
      if 1000 < v1 then
        (some (((-1), s)))
      else
        if 100000 < ((s.1 1 16) + v1) then
          (some (((-1), s)))
        else
          let s1 := rysi s 1 16 ((s.1 1 16) + v1)
          some ((s1.1 1 16, s1))
set_option maxHeartbeats 400000 in
set_option maxRecDepth 100000 in
theorem e_X11_later {Γ : rhG} {R : Nat → Nat → Nat} (hS : ShS Γ R) : ∀ (s : ryS) (v1 : Int32), f_X11_later Γ (ryM s R) 1 v1 = Option.map (fun q => (q.1, ryM q.2 R)) (g_X11_later s v1) := by
  intros
  simp only [f_X11_later, g_X11_later, rhck, ryM_1, ryM_2, ryM_3, ry_si, ry_sl, if_true, ry_ck, Option.map_some, Option.map_none, ry_ite, ry_bm, ry_mb, Nat.add_assoc, Nat.reduceAdd, Option.some_bind, Option.bind_some, ssk_1 hS]
def g_X11_lawful (t : Nat) (s : ryS) (v1 : Int32) (v2 : Int32) (v3 : Int32) : Option (Int32 × ryS) :=
    (g_X11_isLawfulFrom t s 33 v1 v2 v3).bind fun r1 =>
    if r1.1 = 0 then
      (some ((0, r1.2)))
    else
      some ((1, r1.2))
set_option maxHeartbeats 400000 in
set_option maxRecDepth 100000 in
theorem e_X11_lawful {Γ : rhG} {R : Nat → Nat → Nat} {t : Nat} (hO_9_t : Sh9 Γ R t) (hS : ShS Γ R) (hb_1_3 : R 1 3 = t) : ∀ (s : ryS) (v1 : Int32) (v2 : Int32) (v3 : Int32), f_X11_lawful Γ (ryM s R) 1 v1 v2 v3 = Option.map (fun q => (q.1, ryM q.2 R)) (g_X11_lawful t s v1 v2 v3) := by
  have z9t := hO_9_t
  obtain ⟨q9t_0, q9t_1, q9t_2, q9t_3, q9t_4, q9t_5, q9t_6, q9t_7, q9t_8, q9t_9, q9t_10, q9t_11, q9t_12, q9t_13, q9t_14, q9t_15, q9t_16, hO_1_t⟩ := z9t
  obtain ⟨q1t_0, q1t_1, q1t_2, q1t_3, q1t_4, q1t_5, q1t_6, q1t_7, q1t_8, q1t_9, q1t_10, q1t_11, q1t_12⟩ := hO_1_t
  intros
  simp only [f_X11_lawful, g_X11_lawful, rhck, ryM_1, ryM_2, ryM_3, ry_si, ry_sl, if_true, ry_ck, Option.map_some, Option.map_none, ry_ite, ry_bm, ry_mb, Nat.add_assoc, Nat.reduceAdd, Option.some_bind, Option.bind_some, ssk_1 hS, ssr_1_5 hS, q9t_0, q9t_1, q9t_2, q9t_3, q9t_4, q9t_5, q9t_6, q9t_7, q9t_8, q9t_9, q9t_10, q9t_11, q9t_12, q9t_13, q9t_14, q9t_15, q9t_16, q1t_0, q1t_1, q1t_2, q1t_3, q1t_4, q1t_5, q1t_6, q1t_7, q1t_8, q1t_9, q1t_10, q1t_11, q1t_12, e_X11_isLawfulFrom (sh7_33 hS) hO_9_t hS hb_1_3]
def g_X11_lies (c : Nat) (cl : Nat) (s : ryS) (v1 : Int32) : Option (Int32) :=
    if v1 < 0 then
      (some ((-1)))
    else
      if v1 < (s.1 51 1) then
        (rhck (0 ≤ (v1).toInt ∧ (v1).toInt < cl) <|
        some (s.1 c v1.toNatClampNeg))
      else
        some ((-1))
set_option maxHeartbeats 400000 in
set_option maxRecDepth 100000 in
theorem e_X11_lies {Γ : rhG} {R : Nat → Nat → Nat} {c : Nat} {cl : Nat} (hS : ShS Γ R) (hb_51_0 : R 51 0 = c) {s : ryS} : ∀ (v1 : Int32), f_X11_lies Γ (ryM s R) 1 v1 = g_X11_lies c cl s v1 := by
  intros
  simp only [f_X11_lies, g_X11_lies, rhck, ryM_1, ryM_2, ryM_3, ry_si, ry_sl, if_true, ry_ck, Option.map_some, Option.map_none, ry_ite, ry_bm, ry_mb, Nat.add_assoc, Nat.reduceAdd, Option.some_bind, Option.bind_some, hb_51_0, ssk_1 hS, ssk_51 hS, ssr_1_9 hS]
def g_X11_on (t : Nat) (s : ryS) (v1 : Int32) (v2 : Int32) : Option (Int32) :=
    (g_X11_isRail t s v1).bind fun r1 =>
    if r1 = 0 then
      (some ((-1)))
    else
      if v2 < 0 then
        (some ((-1)))
      else
        (g_X7_count s 33 v1).bind fun r2 =>
        if v2 < r2 then
          ((g_X7_houseAt s 33 v1 v2).bind fun r3 =>
          some r3)
        else
          some ((-1))
set_option maxHeartbeats 400000 in
set_option maxRecDepth 100000 in
theorem e_X11_on {Γ : rhG} {R : Nat → Nat → Nat} {t : Nat} (hO_9_t : Sh9 Γ R t) (hS : ShS Γ R) (hb_1_3 : R 1 3 = t) {s : ryS} : ∀ (v1 : Int32) (v2 : Int32), f_X11_on Γ (ryM s R) 1 v1 v2 = g_X11_on t s v1 v2 := by
  have z9t := hO_9_t
  obtain ⟨q9t_0, q9t_1, q9t_2, q9t_3, q9t_4, q9t_5, q9t_6, q9t_7, q9t_8, q9t_9, q9t_10, q9t_11, q9t_12, q9t_13, q9t_14, q9t_15, q9t_16, hO_1_t⟩ := z9t
  obtain ⟨q1t_0, q1t_1, q1t_2, q1t_3, q1t_4, q1t_5, q1t_6, q1t_7, q1t_8, q1t_9, q1t_10, q1t_11, q1t_12⟩ := hO_1_t
  intros
  simp only [f_X11_on, g_X11_on, rhck, ryM_1, ryM_2, ryM_3, ry_si, ry_sl, if_true, ry_ck, Option.map_some, Option.map_none, ry_ite, ry_bm, ry_mb, Nat.add_assoc, Nat.reduceAdd, Option.some_bind, Option.bind_some, ssk_1 hS, ssk_33 hS, ssr_1_5 hS, q9t_0, q9t_1, q9t_2, q9t_3, q9t_4, q9t_5, q9t_6, q9t_7, q9t_8, q9t_9, q9t_10, q9t_11, q9t_12, q9t_13, q9t_14, q9t_15, q9t_16, q1t_0, q1t_1, q1t_2, q1t_3, q1t_4, q1t_5, q1t_6, q1t_7, q1t_8, q1t_9, q1t_10, q1t_11, q1t_12, e_X11_isRail hO_9_t hS hb_1_3, e_X7_count (sh7_33 hS), e_X7_houseAt (sh7_33 hS)]
def g_X11_open (s : ryS) : Option (Int32 × ryS) :=
    let x1 := s.1 1 11
    let s2 := rysl s 1 10 ((0 : Int64))
    let s3 := rysi s2 1 11 0
    some ((x1, s3))
set_option maxHeartbeats 400000 in
set_option maxRecDepth 100000 in
theorem e_X11_open {Γ : rhG} {R : Nat → Nat → Nat} (hS : ShS Γ R) : ∀ (s : ryS), f_X11_open Γ (ryM s R) 1 = Option.map (fun q => (q.1, ryM q.2 R)) (g_X11_open s) := by
  intros
  simp only [f_X11_open, g_X11_open, rhck, ryM_1, ryM_2, ryM_3, ry_si, ry_sl, if_true, ry_ck, Option.map_some, Option.map_none, ry_ite, ry_bm, ry_mb, Nat.add_assoc, Nat.reduceAdd, Option.some_bind, Option.bind_some, ssk_1 hS]
def g_X11_pull (t : Nat) (s : ryS) (v1 : Int32) (v2 : Int32) (v3 : Int32) : Option (Int32 × ryS) :=
    (g_X11_isLawfulFrom t s 33 v1 v2 v3).bind fun r1 =>
    if r1.1 = 0 then
      (some (((-1), r1.2)))
    else
      (g_X7_last r1.2 33 v1 v2).bind fun r2 =>
      rhck (0 ≤ (r2).toInt ∧ (r2).toInt < (256 : Nat)) <|
      let x3 := r1.2.1 ((t + 3)) r2.toNatClampNeg
      (g_X3_code r1.2 v1 v2 v3).bind fun r4 =>
      (g_X3_add 48 (300 : Nat) r1.2 47 r4).bind fun r5 =>
      if r5.1 = 0 then
        (some (((-1), r5.2)))
      else
        let s6 := rysi r5.2 47 2 ((r5.2.1 47 2) + x3)
        (g_X7_after s6 33 v1 v2 v3).bind fun r7 =>
        (g_X7_look s6 33 t r7).bind fun r8 =>
        some ((x3, r8))
set_option maxHeartbeats 400000 in
set_option maxRecDepth 100000 in
theorem e_X11_pull {Γ : rhG} {R : Nat → Nat → Nat} {t : Nat} (hO_9_t : Sh9 Γ R t) (hS : ShS Γ R) (hb_1_3 : R 1 3 = t) : ∀ (s : ryS) (v1 : Int32) (v2 : Int32) (v3 : Int32), f_X11_pull Γ (ryM s R) 1 v1 v2 v3 = Option.map (fun q => (q.1, ryM q.2 R)) (g_X11_pull t s v1 v2 v3) := by
  have z9t := hO_9_t
  obtain ⟨q9t_0, q9t_1, q9t_2, q9t_3, q9t_4, q9t_5, q9t_6, q9t_7, q9t_8, q9t_9, q9t_10, q9t_11, q9t_12, q9t_13, q9t_14, q9t_15, q9t_16, hO_1_t⟩ := z9t
  obtain ⟨q1t_0, q1t_1, q1t_2, q1t_3, q1t_4, q1t_5, q1t_6, q1t_7, q1t_8, q1t_9, q1t_10, q1t_11, q1t_12⟩ := hO_1_t
  intros
  simp only [f_X11_pull, g_X11_pull, rhck, ryM_1, ryM_2, ryM_3, ry_si, ry_sl, if_true, ry_ck, Option.map_some, Option.map_none, ry_ite, ry_bm, ry_mb, Nat.add_assoc, Nat.reduceAdd, Option.some_bind, Option.bind_some, hb_1_3, ssk_1 hS, ssk_33 hS, ssk_47 hS, ssk_48 hS, ssl_48 hS, ssr_1_5 hS, ssr_1_7 hS, ssr_47_0 hS, q9t_0, q9t_1, q9t_2, q9t_3, q9t_4, q9t_5, q9t_6, q9t_7, q9t_8, q9t_9, q9t_10, q9t_11, q9t_12, q9t_13, q9t_14, q9t_15, q9t_16, q1t_0, q1t_1, q1t_2, q1t_3, q1t_4, q1t_5, q1t_6, q1t_7, q1t_8, q1t_9, q1t_10, q1t_11, q1t_12, e_X11_isLawfulFrom (sh7_33 hS) hO_9_t hS hb_1_3, e_X7_last (sh7_33 hS), e_X3_code, e_X3_add (sh3_47 hS), e_X7_after (sh7_33 hS), e_X7_look (sh7_33 hS) hO_9_t]
def g_X11_room (t : Nat) (s : ryS) (v1 : Int32) : Option (Int32) :=
    (g_X11_isRail t s v1).bind fun r1 =>
    if r1 = 0 then
      (some ((-1)))
    else
      rhck (0 ≤ (v1).toInt ∧ (v1).toInt < (5 : Nat)) <|
      (g_X9_roomBeside s t v1 (s.1 36 v1.toNatClampNeg)).bind fun r2 =>
      some r2
set_option maxHeartbeats 400000 in
set_option maxRecDepth 100000 in
theorem e_X11_room {Γ : rhG} {R : Nat → Nat → Nat} {t : Nat} (hO_9_t : Sh9 Γ R t) (hS : ShS Γ R) (hb_1_3 : R 1 3 = t) {s : ryS} : ∀ (v1 : Int32), f_X11_room Γ (ryM s R) 1 v1 = g_X11_room t s v1 := by
  have z9t := hO_9_t
  obtain ⟨q9t_0, q9t_1, q9t_2, q9t_3, q9t_4, q9t_5, q9t_6, q9t_7, q9t_8, q9t_9, q9t_10, q9t_11, q9t_12, q9t_13, q9t_14, q9t_15, q9t_16, hO_1_t⟩ := z9t
  obtain ⟨q1t_0, q1t_1, q1t_2, q1t_3, q1t_4, q1t_5, q1t_6, q1t_7, q1t_8, q1t_9, q1t_10, q1t_11, q1t_12⟩ := hO_1_t
  intros
  simp only [f_X11_room, g_X11_room, rhck, ryM_1, ryM_2, ryM_3, ry_si, ry_sl, if_true, ry_ck, Option.map_some, Option.map_none, ry_ite, ry_bm, ry_mb, Nat.add_assoc, Nat.reduceAdd, Option.some_bind, Option.bind_some, hb_1_3, ssk_1 hS, ssk_33 hS, ssk_36 hS, ssl_36 hS, ssr_1_5 hS, ssr_33_4 hS, q9t_0, q9t_1, q9t_2, q9t_3, q9t_4, q9t_5, q9t_6, q9t_7, q9t_8, q9t_9, q9t_10, q9t_11, q9t_12, q9t_13, q9t_14, q9t_15, q9t_16, q1t_0, q1t_1, q1t_2, q1t_3, q1t_4, q1t_5, q1t_6, q1t_7, q1t_8, q1t_9, q1t_10, q1t_11, q1t_12, e_X11_isRail hO_9_t hS hb_1_3, e_X9_roomBeside hO_9_t]
def g_X11_sight (t : Nat) (s : ryS) (v1 : Int32) (v2 : Int32) (v3 : Int32) (v4 : Int32) : Option (Int32 × ryS) :=
    if v1 < 0 then
      (some (((-1), s)))
    else
      if 3 < v1 then
        (some (((-1), s)))
      else
        (g_X11_isHouse t s v2).bind fun r1 =>
        if r1 = 0 then
          (some (((-1), s)))
        else
          (g_X11_isRail t s v3).bind fun r2 =>
          if r2 = 0 then
            (some (((-1), s)))
          else
            (g_X6_add s v1 v2 v3 v4 (s.1 1 16)).bind fun r3 =>
            some ((r3.1, r3.2))
set_option maxHeartbeats 400000 in
set_option maxRecDepth 100000 in
theorem e_X11_sight {Γ : rhG} {R : Nat → Nat → Nat} {t : Nat} (hO_9_t : Sh9 Γ R t) (hS : ShS Γ R) (hb_1_3 : R 1 3 = t) : ∀ (s : ryS) (v1 : Int32) (v2 : Int32) (v3 : Int32) (v4 : Int32), f_X11_sight Γ (ryM s R) 1 v1 v2 v3 v4 = Option.map (fun q => (q.1, ryM q.2 R)) (g_X11_sight t s v1 v2 v3 v4) := by
  have z9t := hO_9_t
  obtain ⟨q9t_0, q9t_1, q9t_2, q9t_3, q9t_4, q9t_5, q9t_6, q9t_7, q9t_8, q9t_9, q9t_10, q9t_11, q9t_12, q9t_13, q9t_14, q9t_15, q9t_16, hO_1_t⟩ := z9t
  obtain ⟨q1t_0, q1t_1, q1t_2, q1t_3, q1t_4, q1t_5, q1t_6, q1t_7, q1t_8, q1t_9, q1t_10, q1t_11, q1t_12⟩ := hO_1_t
  intros
  simp only [f_X11_sight, g_X11_sight, rhck, ryM_1, ryM_2, ryM_3, ry_si, ry_sl, if_true, ry_ck, Option.map_some, Option.map_none, ry_ite, ry_bm, ry_mb, Nat.add_assoc, Nat.reduceAdd, Option.some_bind, Option.bind_some, ssk_1 hS, ssk_55 hS, ssr_1_14 hS, q9t_0, q9t_1, q9t_2, q9t_3, q9t_4, q9t_5, q9t_6, q9t_7, q9t_8, q9t_9, q9t_10, q9t_11, q9t_12, q9t_13, q9t_14, q9t_15, q9t_16, q1t_0, q1t_1, q1t_2, q1t_3, q1t_4, q1t_5, q1t_6, q1t_7, q1t_8, q1t_9, q1t_10, q1t_11, q1t_12, e_X11_isHouse hO_9_t hS hb_1_3, e_X11_isRail hO_9_t hS hb_1_3, e_X6_add hS]
def g_X11_takeBack (t : Nat) (s : ryS) (v1 : Int32) : Option (ryS) :=
    (g_X3_fromOf s v1).bind fun r1 =>
    (g_X3_manyOf s v1).bind fun r2 =>
    (g_X3_toOf s v1).bind fun r3 =>
    (g_X11_canBeFrom t s 33 r3 r2 r1).bind fun r4 =>
    if r4 = 0 then
      (some s)
    else
      (g_X7_last s 33 r3 r2).bind fun r5 =>
      rhck (0 ≤ (r5).toInt ∧ (r5).toInt < (256 : Nat)) <|
      let s6 := rysi s 47 2 ((s.1 47 2) - (s.1 ((t + 3)) r5.toNatClampNeg))
      (g_X7_after s6 33 r3 r2 r1).bind fun r7 =>
      (g_X7_look s6 33 t r7).bind fun r8 =>
      some r8
set_option maxHeartbeats 400000 in
set_option maxRecDepth 100000 in
theorem e_X11_takeBack {Γ : rhG} {R : Nat → Nat → Nat} {t : Nat} (hO_9_t : Sh9 Γ R t) (hS : ShS Γ R) (hb_1_3 : R 1 3 = t) : ∀ (s : ryS) (v1 : Int32), f_X11_takeBack Γ (ryM s R) 1 v1 = Option.map (fun s => ryM s R) (g_X11_takeBack t s v1) := by
  have z9t := hO_9_t
  obtain ⟨q9t_0, q9t_1, q9t_2, q9t_3, q9t_4, q9t_5, q9t_6, q9t_7, q9t_8, q9t_9, q9t_10, q9t_11, q9t_12, q9t_13, q9t_14, q9t_15, q9t_16, hO_1_t⟩ := z9t
  obtain ⟨q1t_0, q1t_1, q1t_2, q1t_3, q1t_4, q1t_5, q1t_6, q1t_7, q1t_8, q1t_9, q1t_10, q1t_11, q1t_12⟩ := hO_1_t
  intros
  simp only [f_X11_takeBack, g_X11_takeBack, rhck, ryM_1, ryM_2, ryM_3, ry_si, ry_sl, if_true, ry_ck, Option.map_some, Option.map_none, ry_ite, ry_bm, ry_mb, Nat.add_assoc, Nat.reduceAdd, Option.some_bind, Option.bind_some, hb_1_3, ssk_1 hS, ssk_33 hS, ssk_47 hS, ssr_1_5 hS, ssr_1_7 hS, q9t_0, q9t_1, q9t_2, q9t_3, q9t_4, q9t_5, q9t_6, q9t_7, q9t_8, q9t_9, q9t_10, q9t_11, q9t_12, q9t_13, q9t_14, q9t_15, q9t_16, q1t_0, q1t_1, q1t_2, q1t_3, q1t_4, q1t_5, q1t_6, q1t_7, q1t_8, q1t_9, q1t_10, q1t_11, q1t_12, e_X3_fromOf, e_X3_manyOf, e_X3_toOf, e_X11_canBeFrom (sh7_33 hS) hO_9_t hS hb_1_3, e_X7_last (sh7_33 hS), e_X7_after (sh7_33 hS), e_X7_look (sh7_33 hS) hO_9_t]
def g_X11_tell (t : Nat) (s : ryS) (v1 : Int32) (v2 : Int32) (v3 : Int32) : Option (Int32 × ryS) :=
    (g_X11_areUnlikeRails t s v1 v3).bind fun r1 =>
    if r1 = 0 then
      (some (((-1), s)))
    else
      if v2 < 1 then
        (some (((-1), s)))
      else
        if 8 < v2 then
          (some (((-1), s)))
        else
          (g_X3_code s v1 v2 v3).bind fun r2 =>
          (g_X3_add 50 (12 : Nat) s 49 r2).bind fun r3 =>
          if r3.1 = 0 then
            (some (((-1), r3.2)))
          else
            some ((r3.2.1 49 1, r3.2))
set_option maxHeartbeats 400000 in
set_option maxRecDepth 100000 in
theorem e_X11_tell {Γ : rhG} {R : Nat → Nat → Nat} {t : Nat} (hO_9_t : Sh9 Γ R t) (hS : ShS Γ R) (hb_1_3 : R 1 3 = t) : ∀ (s : ryS) (v1 : Int32) (v2 : Int32) (v3 : Int32), f_X11_tell Γ (ryM s R) 1 v1 v2 v3 = Option.map (fun q => (q.1, ryM q.2 R)) (g_X11_tell t s v1 v2 v3) := by
  have z9t := hO_9_t
  obtain ⟨q9t_0, q9t_1, q9t_2, q9t_3, q9t_4, q9t_5, q9t_6, q9t_7, q9t_8, q9t_9, q9t_10, q9t_11, q9t_12, q9t_13, q9t_14, q9t_15, q9t_16, hO_1_t⟩ := z9t
  obtain ⟨q1t_0, q1t_1, q1t_2, q1t_3, q1t_4, q1t_5, q1t_6, q1t_7, q1t_8, q1t_9, q1t_10, q1t_11, q1t_12⟩ := hO_1_t
  intros
  simp only [f_X11_tell, g_X11_tell, rhck, ryM_1, ryM_2, ryM_3, ry_si, ry_sl, if_true, ry_ck, Option.map_some, Option.map_none, ry_ite, ry_bm, ry_mb, Nat.add_assoc, Nat.reduceAdd, Option.some_bind, Option.bind_some, ssk_1 hS, ssk_49 hS, ssk_50 hS, ssl_50 hS, ssr_1_8 hS, ssr_49_0 hS, q9t_0, q9t_1, q9t_2, q9t_3, q9t_4, q9t_5, q9t_6, q9t_7, q9t_8, q9t_9, q9t_10, q9t_11, q9t_12, q9t_13, q9t_14, q9t_15, q9t_16, q1t_0, q1t_1, q1t_2, q1t_3, q1t_4, q1t_5, q1t_6, q1t_7, q1t_8, q1t_9, q1t_10, q1t_11, q1t_12, e_X11_areUnlikeRails hO_9_t hS hb_1_3, e_X3_code, e_X3_add (sh3_49 hS)]
def g_X11_undo_27 (t : Nat) : Nat → ryS → Int32 → Int32 → Option (Int32 × ryS)
  | 0, _, _, _ => none
  | n + 1, s, v2, v3 =>
    if v3 < v2 then
      (rhck (0 ≤ ((s.1 47 1) - 1).toInt ∧ ((s.1 47 1) - 1).toInt < (300 : Nat)) <|
      (g_X11_takeBack t s (s.1 48 ((s.1 47 1) - 1).toNatClampNeg)).bind fun r2 =>
      let s3 := rysi r2 47 1 ((r2.1 47 1) - 1)
      let x4 : Int32 := v3 + 1
      g_X11_undo_27 t n s3 v2 x4)
    else
      some ((v2, s))
def g_X11_undo (t : Nat) (s : ryS) (v1 : Int32) : Option (Int32 × ryS) :=
    if v1 < 0 then
      (some (((-1), s)))
    else
      if 300 < v1 then
        (some (((-1), s)))
      else
        let x1 : Int32 := if (s.1 47 1) < v1 then s.1 47 1 else v1
        g_X11_undo_27 t rhFU s x1 0
set_option maxHeartbeats 400000 in
set_option maxRecDepth 100000 in
theorem e_X11_undo_27 {Γ : rhG} {R : Nat → Nat → Nat} {t : Nat} (hO_9_t : Sh9 Γ R t) (hS : ShS Γ R) (hb_1_3 : R 1 3 = t) : ∀ (n : Nat) (s : ryS) (v2 : Int32) (v3 : Int32), f_X11_undo_27 Γ n (ryM s R) 1 v2 v3 = Option.map (fun q => (q.1, ryM q.2 R)) (g_X11_undo_27 t n s v2 v3) := by
  have z9t := hO_9_t
  obtain ⟨q9t_0, q9t_1, q9t_2, q9t_3, q9t_4, q9t_5, q9t_6, q9t_7, q9t_8, q9t_9, q9t_10, q9t_11, q9t_12, q9t_13, q9t_14, q9t_15, q9t_16, hO_1_t⟩ := z9t
  obtain ⟨q1t_0, q1t_1, q1t_2, q1t_3, q1t_4, q1t_5, q1t_6, q1t_7, q1t_8, q1t_9, q1t_10, q1t_11, q1t_12⟩ := hO_1_t
  intro n
  induction n with
  | zero => intros; simp only [f_X11_undo_27, g_X11_undo_27, Option.map_none]
  | succ n ih =>
    intros
    simp only [f_X11_undo_27, g_X11_undo_27, rhck, ryM_1, ryM_2, ryM_3, ry_si, ry_sl, if_true, ry_ck, Option.map_some, Option.map_none, ry_ite, ry_bm, ry_mb, Nat.add_assoc, Nat.reduceAdd, Option.some_bind, Option.bind_some, ssk_1 hS, ssk_47 hS, ssk_48 hS, ssl_48 hS, ssr_1_7 hS, ssr_47_0 hS, q9t_0, q9t_1, q9t_2, q9t_3, q9t_4, q9t_5, q9t_6, q9t_7, q9t_8, q9t_9, q9t_10, q9t_11, q9t_12, q9t_13, q9t_14, q9t_15, q9t_16, q1t_0, q1t_1, q1t_2, q1t_3, q1t_4, q1t_5, q1t_6, q1t_7, q1t_8, q1t_9, q1t_10, q1t_11, q1t_12, e_X11_takeBack hO_9_t hS hb_1_3, ih]
set_option maxHeartbeats 400000 in
set_option maxRecDepth 100000 in
theorem e_X11_undo {Γ : rhG} {R : Nat → Nat → Nat} {t : Nat} (hO_9_t : Sh9 Γ R t) (hS : ShS Γ R) (hb_1_3 : R 1 3 = t) : ∀ (s : ryS) (v1 : Int32), f_X11_undo Γ (ryM s R) 1 v1 = Option.map (fun q => (q.1, ryM q.2 R)) (g_X11_undo t s v1) := by
  have z9t := hO_9_t
  obtain ⟨q9t_0, q9t_1, q9t_2, q9t_3, q9t_4, q9t_5, q9t_6, q9t_7, q9t_8, q9t_9, q9t_10, q9t_11, q9t_12, q9t_13, q9t_14, q9t_15, q9t_16, hO_1_t⟩ := z9t
  obtain ⟨q1t_0, q1t_1, q1t_2, q1t_3, q1t_4, q1t_5, q1t_6, q1t_7, q1t_8, q1t_9, q1t_10, q1t_11, q1t_12⟩ := hO_1_t
  intros
  simp only [f_X11_undo, g_X11_undo, rhck, ryM_1, ryM_2, ryM_3, ry_si, ry_sl, if_true, ry_ck, Option.map_some, Option.map_none, ry_ite, ry_bm, ry_mb, Nat.add_assoc, Nat.reduceAdd, Option.some_bind, Option.bind_some, ssk_1 hS, ssk_47 hS, ssr_1_7 hS, q9t_0, q9t_1, q9t_2, q9t_3, q9t_4, q9t_5, q9t_6, q9t_7, q9t_8, q9t_9, q9t_10, q9t_11, q9t_12, q9t_13, q9t_14, q9t_15, q9t_16, q1t_0, q1t_1, q1t_2, q1t_3, q1t_4, q1t_5, q1t_6, q1t_7, q1t_8, q1t_9, q1t_10, q1t_11, q1t_12, e_X11_undo_27 hO_9_t hS hb_1_3]
def g_X11_untell (s : ryS) (v1 : Int32) : Option (Int32 × ryS) :=
    (g_X6_remove s v1 (s.1 1 16)).bind fun r1 =>
    rhck (r1.1 = 0 ∨ r1.1 = 1) <|
    some ((r1.1, r1.2))
set_option maxHeartbeats 400000 in
set_option maxRecDepth 100000 in
theorem e_X11_untell {Γ : rhG} {R : Nat → Nat → Nat} (hS : ShS Γ R) : ∀ (s : ryS) (v1 : Int32), f_X11_untell Γ (ryM s R) 1 v1 = Option.map (fun q => (q.1, ryM q.2 R)) (g_X11_untell s v1) := by
  intros
  simp only [f_X11_untell, g_X11_untell, rhck, ryM_1, ryM_2, ryM_3, ry_si, ry_sl, if_true, ry_ck, Option.map_some, Option.map_none, ry_ite, ry_bm, ry_mb, Nat.add_assoc, Nat.reduceAdd, Option.some_bind, Option.bind_some, ssk_1 hS, ssk_55 hS, ssr_1_14 hS, e_X6_remove hS]
def g_X11_where (t : Nat) (s : ryS) (v1 : Int32) (v2 : Int32) : Option (Int32) :=
    (g_X11_isHouse t s v1).bind fun r1 =>
    if r1 = 0 then
      (some ((-1)))
    else
      if v2 = 0 then
        ((g_X7_railOf s 33 v1).bind fun r2 =>
        some r2)
      else
      if v2 = 1 then
        ((g_X7_aheadOf s 33 v1).bind fun r3 =>
        some r3)
      else
      some ((-1))
set_option maxHeartbeats 400000 in
set_option maxRecDepth 100000 in
theorem e_X11_where {Γ : rhG} {R : Nat → Nat → Nat} {t : Nat} (hO_9_t : Sh9 Γ R t) (hS : ShS Γ R) (hb_1_3 : R 1 3 = t) {s : ryS} : ∀ (v1 : Int32) (v2 : Int32), f_X11_where Γ (ryM s R) 1 v1 v2 = g_X11_where t s v1 v2 := by
  have z9t := hO_9_t
  obtain ⟨q9t_0, q9t_1, q9t_2, q9t_3, q9t_4, q9t_5, q9t_6, q9t_7, q9t_8, q9t_9, q9t_10, q9t_11, q9t_12, q9t_13, q9t_14, q9t_15, q9t_16, hO_1_t⟩ := z9t
  obtain ⟨q1t_0, q1t_1, q1t_2, q1t_3, q1t_4, q1t_5, q1t_6, q1t_7, q1t_8, q1t_9, q1t_10, q1t_11, q1t_12⟩ := hO_1_t
  intros
  simp only [f_X11_where, g_X11_where, rhck, ryM_1, ryM_2, ryM_3, ry_si, ry_sl, if_true, ry_ck, Option.map_some, Option.map_none, ry_ite, ry_bm, ry_mb, Nat.add_assoc, Nat.reduceAdd, Option.some_bind, Option.bind_some, ssk_1 hS, ssk_33 hS, ssr_1_5 hS, q9t_0, q9t_1, q9t_2, q9t_3, q9t_4, q9t_5, q9t_6, q9t_7, q9t_8, q9t_9, q9t_10, q9t_11, q9t_12, q9t_13, q9t_14, q9t_15, q9t_16, q1t_0, q1t_1, q1t_2, q1t_3, q1t_4, q1t_5, q1t_6, q1t_7, q1t_8, q1t_9, q1t_10, q1t_11, q1t_12, e_X11_isHouse hO_9_t hS hb_1_3, e_X7_railOf (sh7_33 hS), e_X7_aheadOf (sh7_33 hS)]
def g_X11_worth (t : Nat) (s : ryS) : Option (Int32) :=
    (g_X9_worthOf s t (s.2 33 0)).bind fun r1 =>
    some r1
set_option maxHeartbeats 400000 in
set_option maxRecDepth 100000 in
theorem e_X11_worth {Γ : rhG} {R : Nat → Nat → Nat} {t : Nat} (hO_9_t : Sh9 Γ R t) (hS : ShS Γ R) (hb_1_3 : R 1 3 = t) {s : ryS} : f_X11_worth Γ (ryM s R) 1 = g_X11_worth t s := by
  have z9t := hO_9_t
  obtain ⟨q9t_0, q9t_1, q9t_2, q9t_3, q9t_4, q9t_5, q9t_6, q9t_7, q9t_8, q9t_9, q9t_10, q9t_11, q9t_12, q9t_13, q9t_14, q9t_15, q9t_16, hO_1_t⟩ := z9t
  obtain ⟨q1t_0, q1t_1, q1t_2, q1t_3, q1t_4, q1t_5, q1t_6, q1t_7, q1t_8, q1t_9, q1t_10, q1t_11, q1t_12⟩ := hO_1_t
  intros
  simp only [f_X11_worth, g_X11_worth, rhck, ryM_1, ryM_2, ryM_3, ry_si, ry_sl, if_true, ry_ck, Option.map_some, Option.map_none, ry_ite, ry_bm, ry_mb, Nat.add_assoc, Nat.reduceAdd, Option.some_bind, Option.bind_some, hb_1_3, ssk_1 hS, ssk_33 hS, ssr_1_5 hS, q9t_0, q9t_1, q9t_2, q9t_3, q9t_4, q9t_5, q9t_6, q9t_7, q9t_8, q9t_9, q9t_10, q9t_11, q9t_12, q9t_13, q9t_14, q9t_15, q9t_16, q1t_0, q1t_1, q1t_2, q1t_3, q1t_4, q1t_5, q1t_6, q1t_7, q1t_8, q1t_9, q1t_10, q1t_11, q1t_12, e_X9_worthOf hO_9_t]
def g_X12_houseMany (s : ryS) : Option (Int32) :=
    rhck (0 ≤ (s.1 102 34).toInt ∧ (s.1 102 34).toInt < (2 : Nat)) <|
    some (s.1 106 (s.1 102 34).toNatClampNeg)
set_option maxHeartbeats 400000 in
set_option maxRecDepth 100000 in
theorem e_X12_houseMany {Γ : rhG} {R : Nat → Nat → Nat} (hS : ShS Γ R) {s : ryS} : f_X12_houseMany Γ (ryM s R) 102 = g_X12_houseMany s := by
  intros
  simp only [f_X12_houseMany, g_X12_houseMany, rhck, ryM_1, ryM_2, ryM_3, ry_si, ry_sl, if_true, ry_ck, Option.map_some, Option.map_none, ry_ite, ry_bm, ry_mb, Nat.add_assoc, Nat.reduceAdd, Option.some_bind, Option.bind_some, ssk_102 hS, ssk_106 hS, ssl_106 hS, ssr_102_12 hS]
def g_X12_railMany (s : ryS) : Option (Int32) :=
    rhck (0 ≤ (s.1 102 34).toInt ∧ (s.1 102 34).toInt < (2 : Nat)) <|
    some (s.1 105 (s.1 102 34).toNatClampNeg)
set_option maxHeartbeats 400000 in
set_option maxRecDepth 100000 in
theorem e_X12_railMany {Γ : rhG} {R : Nat → Nat → Nat} (hS : ShS Γ R) {s : ryS} : f_X12_railMany Γ (ryM s R) 102 = g_X12_railMany s := by
  intros
  simp only [f_X12_railMany, g_X12_railMany, rhck, ryM_1, ryM_2, ryM_3, ry_si, ry_sl, if_true, ry_ck, Option.map_some, Option.map_none, ry_ite, ry_bm, ry_mb, Nat.add_assoc, Nat.reduceAdd, Option.some_bind, Option.bind_some, ssk_102 hS, ssk_105 hS, ssl_105 hS, ssr_102_11 hS]
def g_X12_about (s : ryS) (v1 : Int32) : Option (Int32) :=
    if v1 = 0 then
      ((g_X12_houseMany s).bind fun r1 =>
      some r1)
    else
    if v1 = 1 then
      ((g_X12_railMany s).bind fun r2 =>
      some r2)
    else
    if v1 = 2 then
      (some (s.1 102 48))
    else
    if v1 = 3 then
      (some (s.1 102 51))
    else
    if v1 = 4 then
      (some (s.1 102 53))
    else
    if v1 = 5 then
      (some (s.1 102 82))
    else
    if v1 = 6 then
      (some (s.1 102 83))
    else
    if v1 = 7 then
      (some (s.1 102 2))
    else
    if v1 = 8 then
      (some (s.1 102 49))
    else
    if v1 = 9 then
      (rhck (0 ≤ (s.1 102 34).toInt ∧ (s.1 102 34).toInt < (2 : Nat)) <|
      some (s.1 108 (s.1 102 34).toNatClampNeg))
    else
    if v1 = 10 then
      (some (s.1 102 66))
    else
    some ((-1))
set_option maxHeartbeats 400000 in
set_option maxRecDepth 100000 in
theorem e_X12_about {Γ : rhG} {R : Nat → Nat → Nat} (hS : ShS Γ R) {s : ryS} : ∀ (v1 : Int32), f_X12_about Γ (ryM s R) 102 v1 = g_X12_about s v1 := by
  intros
  simp only [f_X12_about, g_X12_about, rhck, ryM_1, ryM_2, ryM_3, ry_si, ry_sl, if_true, ry_ck, Option.map_some, Option.map_none, ry_ite, ry_bm, ry_mb, Nat.add_assoc, Nat.reduceAdd, Option.some_bind, Option.bind_some, ssk_102 hS, ssk_108 hS, ssl_108 hS, ssr_102_14 hS, e_X12_houseMany hS, e_X12_railMany hS]
def g_X12_isWord (s : ryS) (v1 : Int64) : Option (Int32) :=
    if (s.1 102 8) = 3 then
      (if (s.2 102 10) = v1 then
        (some 1)
      else
        some 0)
    else
      some 0
set_option maxHeartbeats 400000 in
set_option maxRecDepth 100000 in
theorem e_X12_isWord {Γ : rhG} {R : Nat → Nat → Nat} (hS : ShS Γ R) {s : ryS} : ∀ (v1 : Int64), f_X12_isWord Γ (ryM s R) 102 v1 = g_X12_isWord s v1 := by
  intros
  simp only [f_X12_isWord, g_X12_isWord, rhck, ryM_1, ryM_2, ryM_3, ry_si, ry_sl, if_true, ry_ck, Option.map_some, Option.map_none, ry_ite, ry_bm, ry_mb, Nat.add_assoc, Nat.reduceAdd, Option.some_bind, Option.bind_some, ssk_102 hS]
def g_X12_isDigit (s : ryS) (v0 : Int32) : Option (Int32) :=
    if v0 < 48 then
      (some 0)
    else
      if 57 < v0 then
        (some 0)
      else
        some 1
set_option maxHeartbeats 400000 in
set_option maxRecDepth 100000 in
theorem e_X12_isDigit {Γ : rhG} {R : Nat → Nat → Nat} {s : ryS} : ∀ (v0 : Int32), f_X12_isDigit Γ (ryM s R) v0 = g_X12_isDigit s v0 := by
  intros
  simp only [f_X12_isDigit, g_X12_isDigit, rhck, ryM_1, ryM_2, ryM_3, ry_si, ry_sl, if_true, ry_ck, Option.map_some, Option.map_none, ry_ite, ry_bm, ry_mb, Nat.add_assoc, Nat.reduceAdd, Option.some_bind, Option.bind_some]
def g_X12_isKept_72 (k77 : Int64 → Int32 → Option (Int32)) (s : ryS) (v0 : Int64) : Option (Int32) :=
    k77 v0 1
def g_X12_isKept_77 (s : ryS) (v0 : Int64) (w0 : Int32) : Option (Int32) :=
    if w0 = 0 then
      (if v0 = ((7102839 : Int64)) then
        (some 1)
      else
        if v0 = ((1835101817 : Int64)) then
          (some 1)
        else
          if v0 = ((1718775661 : Int64)) then
            (some 1)
          else
            if v0 = ((29807 : Int64)) then
              (some 1)
            else
              if v0 = ((1919905645 : Int64)) then
                (some 1)
              else
                if v0 = ((499850634611 : Int64)) then
                  (some 1)
                else
                  if v0 = ((6385252 : Int64)) then
                    (some 1)
                  else
                    if v0 = ((28530 : Int64)) then
                      (some 1)
                    else
                      if v0 = ((7237492 : Int64)) then
                        (some 1)
                      else
                        some 0)
    else
      some 1
def g_X12_isKept (s : ryS) (v0 : Int64) : Option (Int32) :=
    if v0 = ((1918986604 : Int64)) then
      (g_X12_isKept_72 (g_X12_isKept_77 s) s v0)
    else
      if v0 = ((119182899770472 : Int64)) then
        (g_X12_isKept_72 (g_X12_isKept_77 s) s v0)
      else
        if v0 = ((448546567013 : Int64)) then
          (g_X12_isKept_72 (g_X12_isKept_77 s) s v0)
        else
          if v0 = ((131277443786868 : Int64)) then
            (g_X12_isKept_72 (g_X12_isKept_77 s) s v0)
          else
            if v0 = ((28526 : Int64)) then
              (g_X12_isKept_72 (g_X12_isKept_77 s) s v0)
            else
              if v0 = ((108187867505765 : Int64)) then
                (g_X12_isKept_72 (g_X12_isKept_77 s) s v0)
              else
                if v0 = ((512970880104 : Int64)) then
                  (g_X12_isKept_72 (g_X12_isKept_77 s) s v0)
                else
                  if v0 = ((1852138347 : Int64)) then
                    (g_X12_isKept_72 (g_X12_isKept_77 s) s v0)
                  else
                    if v0 = ((431415719795 : Int64)) then
                      (g_X12_isKept_72 (g_X12_isKept_77 s) s v0)
                    else
                      g_X12_isKept_77 s v0 0
set_option maxHeartbeats 400000 in
set_option maxRecDepth 100000 in
theorem e_X12_isKept_72 {Γ : rhG} {R : Nat → Nat → Nat} {f77 : Int64 → Int32 → Option (Int32)} {k77 : Int64 → Int32 → Option (Int32)} (hk77 : ∀ (v0 : Int64) (w0 : Int32), f77 v0 w0 = k77 v0 w0) {s : ryS} : ∀ (v0 : Int64), f_X12_isKept_72 f77 Γ (ryM s R) v0 = g_X12_isKept_72 k77 s v0 := by
  intros
  simp only [f_X12_isKept_72, g_X12_isKept_72, rhck, ryM_1, ryM_2, ryM_3, ry_si, ry_sl, if_true, ry_ck, Option.map_some, Option.map_none, ry_ite, ry_bm, ry_mb, Nat.add_assoc, Nat.reduceAdd, Option.some_bind, Option.bind_some, hk77]
set_option maxHeartbeats 400000 in
set_option maxRecDepth 100000 in
theorem e_X12_isKept_77 {Γ : rhG} {R : Nat → Nat → Nat} {s : ryS} : ∀ (v0 : Int64) (w0 : Int32), f_X12_isKept_77 Γ (ryM s R) v0 w0 = g_X12_isKept_77 s v0 w0 := by
  intros
  simp only [f_X12_isKept_77, g_X12_isKept_77, rhck, ryM_1, ryM_2, ryM_3, ry_si, ry_sl, if_true, ry_ck, Option.map_some, Option.map_none, ry_ite, ry_bm, ry_mb, Nat.add_assoc, Nat.reduceAdd, Option.some_bind, Option.bind_some]
set_option maxHeartbeats 400000 in
set_option maxRecDepth 100000 in
theorem e_X12_isKept {Γ : rhG} {R : Nat → Nat → Nat} {s : ryS} : ∀ (v0 : Int64), f_X12_isKept Γ (ryM s R) v0 = g_X12_isKept s v0 := by
  intros
  simp only [f_X12_isKept, g_X12_isKept, rhck, ryM_1, ryM_2, ryM_3, ry_si, ry_sl, if_true, ry_ck, Option.map_some, Option.map_none, ry_ite, ry_bm, ry_mb, Nat.add_assoc, Nat.reduceAdd, Option.some_bind, Option.bind_some, e_X12_isKept_72 (e_X12_isKept_77), e_X12_isKept_77]
def g_X12_isLetter (s : ryS) (v0 : Int32) : Option (Int32) :=
    if v0 < 97 then
      (some 0)
    else
      if 122 < v0 then
        (some 0)
      else
        some 1
set_option maxHeartbeats 400000 in
set_option maxRecDepth 100000 in
theorem e_X12_isLetter {Γ : rhG} {R : Nat → Nat → Nat} {s : ryS} : ∀ (v0 : Int32), f_X12_isLetter Γ (ryM s R) v0 = g_X12_isLetter s v0 := by
  intros
  simp only [f_X12_isLetter, g_X12_isLetter, rhck, ryM_1, ryM_2, ryM_3, ry_si, ry_sl, if_true, ry_ck, Option.map_some, Option.map_none, ry_ite, ry_bm, ry_mb, Nat.add_assoc, Nat.reduceAdd, Option.some_bind, Option.bind_some]
def g_X12_isSign (s : ryS) (v0 : Int32) : Option (Int32) :=
    if v0 = 59 then
      (some 1)
    else
      if v0 = 40 then
        (some 1)
      else
        if v0 = 41 then
          (some 1)
        else
          if v0 = 60 then
            (some 1)
          else
            if v0 = 62 then
              (some 1)
            else
              if v0 = 61 then
                (some 1)
              else
                if v0 = 43 then
                  (some 1)
                else
                  if v0 = 45 then
                    (some 1)
                  else
                    if v0 = 42 then
                      (some 1)
                    else
                      if v0 = 47 then
                        (some 1)
                      else
                        some 0
set_option maxHeartbeats 400000 in
set_option maxRecDepth 100000 in
theorem e_X12_isSign {Γ : rhG} {R : Nat → Nat → Nat} {s : ryS} : ∀ (v0 : Int32), f_X12_isSign Γ (ryM s R) v0 = g_X12_isSign s v0 := by
  intros
  simp only [f_X12_isSign, g_X12_isSign, rhck, ryM_1, ryM_2, ryM_3, ry_si, ry_sl, if_true, ry_ck, Option.map_some, Option.map_none, ry_ite, ry_bm, ry_mb, Nat.add_assoc, Nat.reduceAdd, Option.some_bind, Option.bind_some]
def g_X12_sign (s : ryS) (v1 : Int32) : Option (Int32) :=
    if v1 < (s.1 102 3) then
      (rhck (0 ≤ (v1).toInt ∧ (v1).toInt < (1600 : Nat)) <|
      some ((s.1 104 v1.toNatClampNeg) &&& 255))
    else
      some 0
set_option maxHeartbeats 400000 in
set_option maxRecDepth 100000 in
theorem e_X12_sign {Γ : rhG} {R : Nat → Nat → Nat} (hS : ShS Γ R) {s : ryS} : ∀ (v1 : Int32), f_X12_sign Γ (ryM s R) 102 v1 = g_X12_sign s v1 := by
  intros
  simp only [f_X12_sign, g_X12_sign, rhck, ryM_1, ryM_2, ryM_3, ry_si, ry_sl, if_true, ry_ck, Option.map_some, Option.map_none, ry_ite, ry_bm, ry_mb, Nat.add_assoc, Nat.reduceAdd, Option.some_bind, Option.bind_some, ssk_102 hS, ssk_104 hS, ssl_104 hS, ssr_102_1 hS]
def g_X12_goOn_45 (k8 : ryS → Option (ryS)) (s : ryS) : Option (ryS) :=
    let s3 := rysi s 102 6 ((s.1 102 6) + 1)
    k8 s3
def g_X12_goOn_8 (k58 : ryS → Option (ryS)) : Nat → ryS → Option (ryS)
  | 0, _ => none
  | n + 1, s =>
    if (s.1 102 6) < (s.1 102 3) then
      ((g_X12_sign s (s.1 102 6)).bind fun r2 =>
      if r2 = 32 then
        (g_X12_goOn_45 (g_X12_goOn_8 k58 n) s)
      else
        (g_X12_sign s (s.1 102 6)).bind fun r4 =>
        if r4 = 10 then
          (g_X12_goOn_45 (g_X12_goOn_8 k58 n) s)
        else
          k58 s)
    else
      k58 s
def g_X12_goOn_374 (s : ryS) (w1 : Int32) : Option (ryS) :=
    let s10 := rysi s 102 8 w1
    some s10
def g_X12_goOn_309 (k259 : ryS → Option (ryS)) (s : ryS) : Option (ryS) :=
    let s17 := rysi s 102 7 ((s.1 102 7) + 1)
    k259 s17
def g_X12_goOn_259 (k322 : ryS → Option (ryS)) : Nat → ryS → Option (ryS)
  | 0, _ => none
  | n + 1, s =>
    (g_X12_sign s (s.1 102 7)).bind fun r13 =>
    (g_X12_isDigit s r13).bind fun r14 =>
    if r14 = 0 then
      (k322 s)
    else
      if ((s.1 102 7) - (s.1 102 6)) < 4 then
        ((g_X12_sign s (s.1 102 7)).bind fun r15 =>
        let s16 := rysi s 102 9 (((10 * (s.1 102 9)) + r15) - 48)
        g_X12_goOn_309 (g_X12_goOn_259 k322 n) s16)
      else
        g_X12_goOn_309 (g_X12_goOn_259 k322 n) s
def g_X12_goOn_350 (k355 : ryS → Int32 → Option (ryS)) (s : ryS) : Option (ryS) :=
    k355 s 1
def g_X12_goOn_355 (s : ryS) (w1 : Int32) : Option (ryS) :=
    let s18 := rysi s 102 8 w1
    some s18
def g_X12_goOn_322 (s : ryS) : Option (ryS) :=
    if 4 < ((s.1 102 7) - (s.1 102 6)) then
      (g_X12_goOn_350 (g_X12_goOn_355) s)
    else
      (g_X12_sign s (s.1 102 7)).bind fun r19 =>
      (g_X12_isLetter s r19).bind fun r20 =>
      if r20 = 0 then
        (g_X12_goOn_355 s 4)
      else
        g_X12_goOn_350 (g_X12_goOn_355) s
def g_X12_goOn_119 (k146 : ryS → Option (ryS)) : Nat → ryS → Option (ryS)
  | 0, _ => none
  | n + 1, s =>
    (g_X12_sign s (s.1 102 7)).bind fun r21 =>
    (g_X12_isLetter s r21).bind fun r22 =>
    if r22 = 0 then
      (k146 s)
    else
      let s23 := rysi s 102 7 ((s.1 102 7) + 1)
      g_X12_goOn_119 k146 n s23
def g_X12_goOn_156 (k199 : ryS → Option (ryS)) : Nat → ryS → Int32 → Option (ryS)
  | 0, _, _ => none
  | n + 1, s, v2 =>
    if v2 < (s.1 102 7) then
      (if v2 < ((s.1 102 6) + 8) then
        ((g_X12_sign s v2).bind fun r26 =>
        let s27 := rysl s 102 10 ((rhsh (s.2 102 10) 8) ||| (Int32.toInt64 r26))
        let x28 : Int32 := v2 + 1
        g_X12_goOn_156 k199 n s27 x28)
      else
        k199 s)
    else
      k199 s
def g_X12_goOn_233 (s : ryS) (w1 : Int32) : Option (ryS) :=
    let s29 := rysi s 102 8 w1
    some s29
def g_X12_goOn_199 (s : ryS) : Option (ryS) :=
    if 8 < ((s.1 102 7) - (s.1 102 6)) then
      (g_X12_goOn_233 s 1)
    else
      (g_X12_isKept s (s.2 102 10)).bind fun r30 =>
      if r30 = 0 then
        (g_X12_goOn_233 s 2)
      else
        g_X12_goOn_233 s 3
def g_X12_goOn_146 (s : ryS) : Option (ryS) :=
    let s24 := rysl s 102 10 ((0 : Int64))
    let x25 := s24.1 102 6
    g_X12_goOn_156 (g_X12_goOn_199) rhFU s24 x25
def g_X12_goOn_58 (s : ryS) : Option (ryS) :=
    (g_X12_sign s (s.1 102 6)).bind fun r5 =>
    let s6 := rysi s 102 7 ((s.1 102 6) + 1)
    if (s6.1 102 6) < (s6.1 102 3) then
      ((g_X12_isLetter s6 r5).bind fun r7 =>
      if r7 = 0 then
        ((g_X12_isDigit s6 r5).bind fun r8 =>
        if r8 = 0 then
          ((g_X12_isSign s6 r5).bind fun r9 =>
          if r9 = 0 then
            (g_X12_goOn_374 s6 1)
          else
            g_X12_goOn_374 s6 5)
        else
          let s11 := rysi s6 102 9 0
          let s12 := rysi s11 102 7 (s11.1 102 6)
          g_X12_goOn_259 (g_X12_goOn_322) rhFU s12)
      else
        g_X12_goOn_119 (g_X12_goOn_146) rhFU s6)
    else
      let s31 := rysi s6 102 8 0
      let s32 := rysi s31 102 6 (s31.1 102 3)
      let s33 := rysi s32 102 7 (s32.1 102 3)
      some s33
def g_X12_goOn (s : ryS) : Option (ryS) :=
    let s1 := rysi s 102 6 (s.1 102 7)
    g_X12_goOn_8 (g_X12_goOn_58) rhFU s1
set_option maxHeartbeats 400000 in
set_option maxRecDepth 100000 in
theorem e_X12_goOn_45 {Γ : rhG} {R : Nat → Nat → Nat} (hS : ShS Γ R) {f8 : rhM → Nat → Option (rhM)} {k8 : ryS → Option (ryS)} (hk8 : ∀ (s : ryS), f8 (ryM s R) 102 = Option.map (fun s => ryM s R) (k8 s)) : ∀ (s : ryS), f_X12_goOn_45 f8 Γ (ryM s R) 102 = Option.map (fun s => ryM s R) (g_X12_goOn_45 k8 s) := by
  intros
  simp only [f_X12_goOn_45, g_X12_goOn_45, rhck, ryM_1, ryM_2, ryM_3, ry_si, ry_sl, if_true, ry_ck, Option.map_some, Option.map_none, ry_ite, ry_bm, ry_mb, Nat.add_assoc, Nat.reduceAdd, Option.some_bind, Option.bind_some, ssk_102 hS, hk8]
set_option maxHeartbeats 400000 in
set_option maxRecDepth 100000 in
theorem e_X12_goOn_8 {Γ : rhG} {R : Nat → Nat → Nat} (hS : ShS Γ R) {f58 : rhM → Nat → Option (rhM)} {k58 : ryS → Option (ryS)} (hk58 : ∀ (s : ryS), f58 (ryM s R) 102 = Option.map (fun s => ryM s R) (k58 s)) : ∀ (n : Nat) (s : ryS), f_X12_goOn_8 f58 Γ n (ryM s R) 102 = Option.map (fun s => ryM s R) (g_X12_goOn_8 k58 n s) := by
  intro n
  induction n with
  | zero => intros; simp only [f_X12_goOn_8, g_X12_goOn_8, Option.map_none]
  | succ n ih =>
    intros
    simp only [f_X12_goOn_8, g_X12_goOn_8, rhck, ryM_1, ryM_2, ryM_3, ry_si, ry_sl, if_true, ry_ck, Option.map_some, Option.map_none, ry_ite, ry_bm, ry_mb, Nat.add_assoc, Nat.reduceAdd, Option.some_bind, Option.bind_some, ssk_102 hS, e_X12_sign hS, e_X12_sign hS, hk58, e_X12_goOn_45 hS ih, ih]
set_option maxHeartbeats 400000 in
set_option maxRecDepth 100000 in
theorem e_X12_goOn_374 {Γ : rhG} {R : Nat → Nat → Nat} (hS : ShS Γ R) : ∀ (s : ryS) (w1 : Int32), f_X12_goOn_374 Γ (ryM s R) 102 w1 = Option.map (fun s => ryM s R) (g_X12_goOn_374 s w1) := by
  intros
  simp only [f_X12_goOn_374, g_X12_goOn_374, rhck, ryM_1, ryM_2, ryM_3, ry_si, ry_sl, if_true, ry_ck, Option.map_some, Option.map_none, ry_ite, ry_bm, ry_mb, Nat.add_assoc, Nat.reduceAdd, Option.some_bind, Option.bind_some, ssk_102 hS]
set_option maxHeartbeats 400000 in
set_option maxRecDepth 100000 in
theorem e_X12_goOn_309 {Γ : rhG} {R : Nat → Nat → Nat} (hS : ShS Γ R) {f259 : rhM → Nat → Option (rhM)} {k259 : ryS → Option (ryS)} (hk259 : ∀ (s : ryS), f259 (ryM s R) 102 = Option.map (fun s => ryM s R) (k259 s)) : ∀ (s : ryS), f_X12_goOn_309 f259 Γ (ryM s R) 102 = Option.map (fun s => ryM s R) (g_X12_goOn_309 k259 s) := by
  intros
  simp only [f_X12_goOn_309, g_X12_goOn_309, rhck, ryM_1, ryM_2, ryM_3, ry_si, ry_sl, if_true, ry_ck, Option.map_some, Option.map_none, ry_ite, ry_bm, ry_mb, Nat.add_assoc, Nat.reduceAdd, Option.some_bind, Option.bind_some, ssk_102 hS, hk259]
set_option maxHeartbeats 400000 in
set_option maxRecDepth 100000 in
theorem e_X12_goOn_259 {Γ : rhG} {R : Nat → Nat → Nat} (hS : ShS Γ R) {f322 : rhM → Nat → Option (rhM)} {k322 : ryS → Option (ryS)} (hk322 : ∀ (s : ryS), f322 (ryM s R) 102 = Option.map (fun s => ryM s R) (k322 s)) : ∀ (n : Nat) (s : ryS), f_X12_goOn_259 f322 Γ n (ryM s R) 102 = Option.map (fun s => ryM s R) (g_X12_goOn_259 k322 n s) := by
  intro n
  induction n with
  | zero => intros; simp only [f_X12_goOn_259, g_X12_goOn_259, Option.map_none]
  | succ n ih =>
    intros
    simp only [f_X12_goOn_259, g_X12_goOn_259, rhck, ryM_1, ryM_2, ryM_3, ry_si, ry_sl, if_true, ry_ck, Option.map_some, Option.map_none, ry_ite, ry_bm, ry_mb, Nat.add_assoc, Nat.reduceAdd, Option.some_bind, Option.bind_some, ssk_102 hS, e_X12_sign hS, e_X12_isDigit, e_X12_sign hS, hk322, e_X12_goOn_309 hS ih, ih]
set_option maxHeartbeats 400000 in
set_option maxRecDepth 100000 in
theorem e_X12_goOn_350 {Γ : rhG} {R : Nat → Nat → Nat} (hS : ShS Γ R) {f355 : rhM → Nat → Int32 → Option (rhM)} {k355 : ryS → Int32 → Option (ryS)} (hk355 : ∀ (s : ryS) (w1 : Int32), f355 (ryM s R) 102 w1 = Option.map (fun s => ryM s R) (k355 s w1)) : ∀ (s : ryS), f_X12_goOn_350 f355 Γ (ryM s R) 102 = Option.map (fun s => ryM s R) (g_X12_goOn_350 k355 s) := by
  intros
  simp only [f_X12_goOn_350, g_X12_goOn_350, rhck, ryM_1, ryM_2, ryM_3, ry_si, ry_sl, if_true, ry_ck, Option.map_some, Option.map_none, ry_ite, ry_bm, ry_mb, Nat.add_assoc, Nat.reduceAdd, Option.some_bind, Option.bind_some, hk355]
set_option maxHeartbeats 400000 in
set_option maxRecDepth 100000 in
theorem e_X12_goOn_355 {Γ : rhG} {R : Nat → Nat → Nat} (hS : ShS Γ R) : ∀ (s : ryS) (w1 : Int32), f_X12_goOn_355 Γ (ryM s R) 102 w1 = Option.map (fun s => ryM s R) (g_X12_goOn_355 s w1) := by
  intros
  simp only [f_X12_goOn_355, g_X12_goOn_355, rhck, ryM_1, ryM_2, ryM_3, ry_si, ry_sl, if_true, ry_ck, Option.map_some, Option.map_none, ry_ite, ry_bm, ry_mb, Nat.add_assoc, Nat.reduceAdd, Option.some_bind, Option.bind_some, ssk_102 hS]
set_option maxHeartbeats 400000 in
set_option maxRecDepth 100000 in
theorem e_X12_goOn_322 {Γ : rhG} {R : Nat → Nat → Nat} (hS : ShS Γ R) : ∀ (s : ryS), f_X12_goOn_322 Γ (ryM s R) 102 = Option.map (fun s => ryM s R) (g_X12_goOn_322 s) := by
  intros
  simp only [f_X12_goOn_322, g_X12_goOn_322, rhck, ryM_1, ryM_2, ryM_3, ry_si, ry_sl, if_true, ry_ck, Option.map_some, Option.map_none, ry_ite, ry_bm, ry_mb, Nat.add_assoc, Nat.reduceAdd, Option.some_bind, Option.bind_some, ssk_102 hS, e_X12_sign hS, e_X12_isLetter, e_X12_goOn_350 hS (e_X12_goOn_355 hS), e_X12_goOn_355 hS]
set_option maxHeartbeats 400000 in
set_option maxRecDepth 100000 in
theorem e_X12_goOn_119 {Γ : rhG} {R : Nat → Nat → Nat} (hS : ShS Γ R) {f146 : rhM → Nat → Option (rhM)} {k146 : ryS → Option (ryS)} (hk146 : ∀ (s : ryS), f146 (ryM s R) 102 = Option.map (fun s => ryM s R) (k146 s)) : ∀ (n : Nat) (s : ryS), f_X12_goOn_119 f146 Γ n (ryM s R) 102 = Option.map (fun s => ryM s R) (g_X12_goOn_119 k146 n s) := by
  intro n
  induction n with
  | zero => intros; simp only [f_X12_goOn_119, g_X12_goOn_119, Option.map_none]
  | succ n ih =>
    intros
    simp only [f_X12_goOn_119, g_X12_goOn_119, rhck, ryM_1, ryM_2, ryM_3, ry_si, ry_sl, if_true, ry_ck, Option.map_some, Option.map_none, ry_ite, ry_bm, ry_mb, Nat.add_assoc, Nat.reduceAdd, Option.some_bind, Option.bind_some, ssk_102 hS, e_X12_sign hS, e_X12_isLetter, hk146, ih]
set_option maxHeartbeats 400000 in
set_option maxRecDepth 100000 in
theorem e_X12_goOn_156 {Γ : rhG} {R : Nat → Nat → Nat} (hS : ShS Γ R) {f199 : rhM → Nat → Option (rhM)} {k199 : ryS → Option (ryS)} (hk199 : ∀ (s : ryS), f199 (ryM s R) 102 = Option.map (fun s => ryM s R) (k199 s)) : ∀ (n : Nat) (s : ryS) (v2 : Int32), f_X12_goOn_156 f199 Γ n (ryM s R) 102 v2 = Option.map (fun s => ryM s R) (g_X12_goOn_156 k199 n s v2) := by
  intro n
  induction n with
  | zero => intros; simp only [f_X12_goOn_156, g_X12_goOn_156, Option.map_none]
  | succ n ih =>
    intros
    simp only [f_X12_goOn_156, g_X12_goOn_156, rhck, ryM_1, ryM_2, ryM_3, ry_si, ry_sl, if_true, ry_ck, Option.map_some, Option.map_none, ry_ite, ry_bm, ry_mb, Nat.add_assoc, Nat.reduceAdd, Option.some_bind, Option.bind_some, ssk_102 hS, e_X12_sign hS, hk199, ih]
set_option maxHeartbeats 400000 in
set_option maxRecDepth 100000 in
theorem e_X12_goOn_233 {Γ : rhG} {R : Nat → Nat → Nat} (hS : ShS Γ R) : ∀ (s : ryS) (w1 : Int32), f_X12_goOn_233 Γ (ryM s R) 102 w1 = Option.map (fun s => ryM s R) (g_X12_goOn_233 s w1) := by
  intros
  simp only [f_X12_goOn_233, g_X12_goOn_233, rhck, ryM_1, ryM_2, ryM_3, ry_si, ry_sl, if_true, ry_ck, Option.map_some, Option.map_none, ry_ite, ry_bm, ry_mb, Nat.add_assoc, Nat.reduceAdd, Option.some_bind, Option.bind_some, ssk_102 hS]
set_option maxHeartbeats 400000 in
set_option maxRecDepth 100000 in
theorem e_X12_goOn_199 {Γ : rhG} {R : Nat → Nat → Nat} (hS : ShS Γ R) : ∀ (s : ryS), f_X12_goOn_199 Γ (ryM s R) 102 = Option.map (fun s => ryM s R) (g_X12_goOn_199 s) := by
  intros
  simp only [f_X12_goOn_199, g_X12_goOn_199, rhck, ryM_1, ryM_2, ryM_3, ry_si, ry_sl, if_true, ry_ck, Option.map_some, Option.map_none, ry_ite, ry_bm, ry_mb, Nat.add_assoc, Nat.reduceAdd, Option.some_bind, Option.bind_some, ssk_102 hS, e_X12_isKept, e_X12_goOn_233 hS]
set_option maxHeartbeats 400000 in
set_option maxRecDepth 100000 in
theorem e_X12_goOn_146 {Γ : rhG} {R : Nat → Nat → Nat} (hS : ShS Γ R) : ∀ (s : ryS), f_X12_goOn_146 Γ (ryM s R) 102 = Option.map (fun s => ryM s R) (g_X12_goOn_146 s) := by
  intros
  simp only [f_X12_goOn_146, g_X12_goOn_146, rhck, ryM_1, ryM_2, ryM_3, ry_si, ry_sl, if_true, ry_ck, Option.map_some, Option.map_none, ry_ite, ry_bm, ry_mb, Nat.add_assoc, Nat.reduceAdd, Option.some_bind, Option.bind_some, ssk_102 hS, e_X12_goOn_156 hS (e_X12_goOn_199 hS), e_X12_goOn_199 hS]
set_option maxHeartbeats 400000 in
set_option maxRecDepth 100000 in
theorem e_X12_goOn_58 {Γ : rhG} {R : Nat → Nat → Nat} (hS : ShS Γ R) : ∀ (s : ryS), f_X12_goOn_58 Γ (ryM s R) 102 = Option.map (fun s => ryM s R) (g_X12_goOn_58 s) := by
  intros
  simp only [f_X12_goOn_58, g_X12_goOn_58, rhck, ryM_1, ryM_2, ryM_3, ry_si, ry_sl, if_true, ry_ck, Option.map_some, Option.map_none, ry_ite, ry_bm, ry_mb, Nat.add_assoc, Nat.reduceAdd, Option.some_bind, Option.bind_some, ssk_102 hS, e_X12_sign hS, e_X12_isLetter, e_X12_isDigit, e_X12_isSign, e_X12_goOn_374 hS, e_X12_goOn_259 hS (e_X12_goOn_322 hS), e_X12_goOn_322 hS, e_X12_goOn_119 hS (e_X12_goOn_146 hS), e_X12_goOn_146 hS]
set_option maxHeartbeats 400000 in
set_option maxRecDepth 100000 in
theorem e_X12_goOn {Γ : rhG} {R : Nat → Nat → Nat} (hS : ShS Γ R) : ∀ (s : ryS), f_X12_goOn Γ (ryM s R) 102 = Option.map (fun s => ryM s R) (g_X12_goOn s) := by
  intros
  simp only [f_X12_goOn, g_X12_goOn, rhck, ryM_1, ryM_2, ryM_3, ry_si, ry_sl, if_true, ry_ck, Option.map_some, Option.map_none, ry_ite, ry_bm, ry_mb, Nat.add_assoc, Nat.reduceAdd, Option.some_bind, Option.bind_some, ssk_102 hS, e_X12_goOn_8 hS (e_X12_goOn_58 hS), e_X12_goOn_58 hS]
def g_X12_isGood (s : ryS) : Option (Int32) :=
    if (s.1 102 4) = 0 then
      (some 1)
    else
      some 0
set_option maxHeartbeats 400000 in
set_option maxRecDepth 100000 in
theorem e_X12_isGood {Γ : rhG} {R : Nat → Nat → Nat} (hS : ShS Γ R) {s : ryS} : f_X12_isGood Γ (ryM s R) 102 = g_X12_isGood s := by
  intros
  simp only [f_X12_isGood, g_X12_isGood, rhck, ryM_1, ryM_2, ryM_3, ry_si, ry_sl, if_true, ry_ck, Option.map_some, Option.map_none, ry_ite, ry_bm, ry_mb, Nat.add_assoc, Nat.reduceAdd, Option.some_bind, Option.bind_some, ssk_102 hS]
def g_X12_fails (s : ryS) (v1 : Int32) (v2 : Int32) : Option (ryS) :=
    if 0 < (s.1 102 4) then
      (some s)
    else
      let s1 := rysi s 102 4 v1
      let s2 := rysi s1 102 5 v2
      some s2
set_option maxHeartbeats 400000 in
set_option maxRecDepth 100000 in
theorem e_X12_fails {Γ : rhG} {R : Nat → Nat → Nat} (hS : ShS Γ R) : ∀ (s : ryS) (v1 : Int32) (v2 : Int32), f_X12_fails Γ (ryM s R) 102 v1 v2 = Option.map (fun s => ryM s R) (g_X12_fails s v1 v2) := by
  intros
  simp only [f_X12_fails, g_X12_fails, rhck, ryM_1, ryM_2, ryM_3, ry_si, ry_sl, if_true, ry_ck, Option.map_some, Option.map_none, ry_ite, ry_bm, ry_mb, Nat.add_assoc, Nat.reduceAdd, Option.some_bind, Option.bind_some, ssk_102 hS]
def g_X12_misplaced_14 (s : ryS) (w1 : Int32) : Option (ryS) :=
    (g_X12_fails s w1 (s.1 102 6)).bind fun r1 =>
    some r1
def g_X12_misplaced (s : ryS) : Option (ryS) :=
    if (s.1 102 8) = 1 then
      (g_X12_misplaced_14 s 1)
    else
      g_X12_misplaced_14 s 2
set_option maxHeartbeats 400000 in
set_option maxRecDepth 100000 in
theorem e_X12_misplaced_14 {Γ : rhG} {R : Nat → Nat → Nat} (hS : ShS Γ R) : ∀ (s : ryS) (w1 : Int32), f_X12_misplaced_14 Γ (ryM s R) 102 102 w1 = Option.map (fun s => ryM s R) (g_X12_misplaced_14 s w1) := by
  intros
  simp only [f_X12_misplaced_14, g_X12_misplaced_14, rhck, ryM_1, ryM_2, ryM_3, ry_si, ry_sl, if_true, ry_ck, Option.map_some, Option.map_none, ry_ite, ry_bm, ry_mb, Nat.add_assoc, Nat.reduceAdd, Option.some_bind, Option.bind_some, ssk_102 hS, e_X12_fails hS]
set_option maxHeartbeats 400000 in
set_option maxRecDepth 100000 in
theorem e_X12_misplaced {Γ : rhG} {R : Nat → Nat → Nat} (hS : ShS Γ R) : ∀ (s : ryS), f_X12_misplaced Γ (ryM s R) 102 = Option.map (fun s => ryM s R) (g_X12_misplaced s) := by
  intros
  simp only [f_X12_misplaced, g_X12_misplaced, rhck, ryM_1, ryM_2, ryM_3, ry_si, ry_sl, if_true, ry_ck, Option.map_some, Option.map_none, ry_ite, ry_bm, ry_mb, Nat.add_assoc, Nat.reduceAdd, Option.some_bind, Option.bind_some, ssk_102 hS, e_X12_misplaced_14 hS]
def g_X12_must (s : ryS) (v1 : Int32) : Option (ryS) :=
    (g_X12_isGood s).bind fun r1 =>
    if r1 = 0 then
      (some s)
    else
      if v1 = 0 then
        ((g_X12_misplaced s).bind fun r2 =>
        some r2)
      else
        (g_X12_goOn s).bind fun r3 =>
        some r3
set_option maxHeartbeats 400000 in
set_option maxRecDepth 100000 in
theorem e_X12_must {Γ : rhG} {R : Nat → Nat → Nat} (hS : ShS Γ R) : ∀ (s : ryS) (v1 : Int32), f_X12_must Γ (ryM s R) 102 v1 = Option.map (fun s => ryM s R) (g_X12_must s v1) := by
  intros
  simp only [f_X12_must, g_X12_must, rhck, ryM_1, ryM_2, ryM_3, ry_si, ry_sl, if_true, ry_ck, Option.map_some, Option.map_none, ry_ite, ry_bm, ry_mb, Nat.add_assoc, Nat.reduceAdd, Option.some_bind, Option.bind_some, ssk_102 hS, e_X12_isGood hS, e_X12_misplaced hS, e_X12_goOn hS]
def g_X12_numeral_69 (s : ryS) (v1 : Int32) (v3 : Int32) : Option (Int32 × ryS) :=
    (g_X12_isGood s).bind fun r5 =>
    if r5 = 0 then
      (some ((v1, s)))
    else
      some ((v3, s))
def g_X12_numeral_53 (s : ryS) (v1 : Int32) : Option (Int32 × ryS) :=
    let x3 := s.1 102 9
    (g_X12_isGood s).bind fun r4 =>
    if r4 = 0 then
      (g_X12_numeral_69 s v1 x3)
    else
      (g_X12_goOn s).bind fun r6 =>
      g_X12_numeral_69 r6 v1 x3
def g_X12_numeral_44 (k53 : ryS → Int32 → Option (Int32 × ryS)) (s : ryS) (v1 : Int32) : Option (Int32 × ryS) :=
    (g_X12_fails s (4 : Int32) (s.1 102 6)).bind fun r7 =>
    k53 r7 v1
def g_X12_numeral_21 (s : ryS) (v1 : Int32) (v2 : Int32) : Option (Int32 × ryS) :=
    (g_X12_isGood s).bind fun r2 =>
    if r2 = 0 then
      (g_X12_numeral_53 s v1)
    else
      if (s.1 102 9) < v1 then
        (g_X12_numeral_44 (g_X12_numeral_53) s v1)
      else
        if v2 < (s.1 102 9) then
          (g_X12_numeral_44 (g_X12_numeral_53) s v1)
        else
          g_X12_numeral_53 s v1
def g_X12_numeral (s : ryS) (v1 : Int32) (v2 : Int32) : Option (Int32 × ryS) :=
    (g_X12_isGood s).bind fun r1 =>
    if r1 = 0 then
      (some ((v1, s)))
    else
      if (s.1 102 8) = 4 then
        (g_X12_numeral_21 s v1 v2)
      else
        (g_X12_misplaced s).bind fun r8 =>
        g_X12_numeral_21 r8 v1 v2
set_option maxHeartbeats 400000 in
set_option maxRecDepth 100000 in
theorem e_X12_numeral_69 {Γ : rhG} {R : Nat → Nat → Nat} (hS : ShS Γ R) : ∀ (s : ryS) (v1 : Int32) (v3 : Int32), f_X12_numeral_69 Γ (ryM s R) 102 v1 v3 = Option.map (fun q => (q.1, ryM q.2 R)) (g_X12_numeral_69 s v1 v3) := by
  intros
  simp only [f_X12_numeral_69, g_X12_numeral_69, rhck, ryM_1, ryM_2, ryM_3, ry_si, ry_sl, if_true, ry_ck, Option.map_some, Option.map_none, ry_ite, ry_bm, ry_mb, Nat.add_assoc, Nat.reduceAdd, Option.some_bind, Option.bind_some, ssk_102 hS, e_X12_isGood hS]
set_option maxHeartbeats 400000 in
set_option maxRecDepth 100000 in
theorem e_X12_numeral_53 {Γ : rhG} {R : Nat → Nat → Nat} (hS : ShS Γ R) : ∀ (s : ryS) (v1 : Int32), f_X12_numeral_53 Γ (ryM s R) 102 v1 = Option.map (fun q => (q.1, ryM q.2 R)) (g_X12_numeral_53 s v1) := by
  intros
  simp only [f_X12_numeral_53, g_X12_numeral_53, rhck, ryM_1, ryM_2, ryM_3, ry_si, ry_sl, if_true, ry_ck, Option.map_some, Option.map_none, ry_ite, ry_bm, ry_mb, Nat.add_assoc, Nat.reduceAdd, Option.some_bind, Option.bind_some, ssk_102 hS, e_X12_isGood hS, e_X12_goOn hS, e_X12_numeral_69 hS]
set_option maxHeartbeats 400000 in
set_option maxRecDepth 100000 in
theorem e_X12_numeral_44 {Γ : rhG} {R : Nat → Nat → Nat} (hS : ShS Γ R) {f53 : rhM → Nat → Int32 → Option (Int32 × rhM)} {k53 : ryS → Int32 → Option (Int32 × ryS)} (hk53 : ∀ (s : ryS) (v1 : Int32), f53 (ryM s R) 102 v1 = Option.map (fun q => (q.1, ryM q.2 R)) (k53 s v1)) : ∀ (s : ryS) (v1 : Int32), f_X12_numeral_44 f53 Γ (ryM s R) 102 v1 = Option.map (fun q => (q.1, ryM q.2 R)) (g_X12_numeral_44 k53 s v1) := by
  intros
  simp only [f_X12_numeral_44, g_X12_numeral_44, rhck, ryM_1, ryM_2, ryM_3, ry_si, ry_sl, if_true, ry_ck, Option.map_some, Option.map_none, ry_ite, ry_bm, ry_mb, Nat.add_assoc, Nat.reduceAdd, Option.some_bind, Option.bind_some, ssk_102 hS, e_X12_fails hS, hk53]
set_option maxHeartbeats 400000 in
set_option maxRecDepth 100000 in
theorem e_X12_numeral_21 {Γ : rhG} {R : Nat → Nat → Nat} (hS : ShS Γ R) : ∀ (s : ryS) (v1 : Int32) (v2 : Int32), f_X12_numeral_21 Γ (ryM s R) 102 v1 v2 = Option.map (fun q => (q.1, ryM q.2 R)) (g_X12_numeral_21 s v1 v2) := by
  intros
  simp only [f_X12_numeral_21, g_X12_numeral_21, rhck, ryM_1, ryM_2, ryM_3, ry_si, ry_sl, if_true, ry_ck, Option.map_some, Option.map_none, ry_ite, ry_bm, ry_mb, Nat.add_assoc, Nat.reduceAdd, Option.some_bind, Option.bind_some, ssk_102 hS, e_X12_isGood hS, e_X12_numeral_53 hS, e_X12_numeral_44 hS (e_X12_numeral_53 hS)]
set_option maxHeartbeats 400000 in
set_option maxRecDepth 100000 in
theorem e_X12_numeral {Γ : rhG} {R : Nat → Nat → Nat} (hS : ShS Γ R) : ∀ (s : ryS) (v1 : Int32) (v2 : Int32), f_X12_numeral Γ (ryM s R) 102 v1 v2 = Option.map (fun q => (q.1, ryM q.2 R)) (g_X12_numeral s v1 v2) := by
  intros
  simp only [f_X12_numeral, g_X12_numeral, rhck, ryM_1, ryM_2, ryM_3, ry_si, ry_sl, if_true, ry_ck, Option.map_some, Option.map_none, ry_ite, ry_bm, ry_mb, Nat.add_assoc, Nat.reduceAdd, Option.some_bind, Option.bind_some, ssk_102 hS, e_X12_isGood hS, e_X12_misplaced hS, e_X12_numeral_21 hS]
def g_X12_after (s : ryS) (v1 : Int64) (v3 : Int32) (v4 : Int32) : Option (Int32 × ryS) :=
    (g_X12_isWord s v1).bind fun r1 =>
    (g_X12_must s r1).bind fun r2 =>
    (g_X12_numeral r2 v3 v4).bind fun r3 =>
    some ((r3.1, r3.2))
set_option maxHeartbeats 400000 in
set_option maxRecDepth 100000 in
theorem e_X12_after {Γ : rhG} {R : Nat → Nat → Nat} (hS : ShS Γ R) : ∀ (s : ryS) (v1 : Int64) (v3 : Int32) (v4 : Int32), f_X12_after Γ (ryM s R) 102 v1 v3 v4 = Option.map (fun q => (q.1, ryM q.2 R)) (g_X12_after s v1 v3 v4) := by
  intros
  simp only [f_X12_after, g_X12_after, rhck, ryM_1, ryM_2, ryM_3, ry_si, ry_sl, if_true, ry_ck, Option.map_some, Option.map_none, ry_ite, ry_bm, ry_mb, Nat.add_assoc, Nat.reduceAdd, Option.some_bind, Option.bind_some, ssk_102 hS, e_X12_isWord hS, e_X12_must hS, e_X12_numeral hS]
def g_X12_beginOf (s : ryS) (v1 : Int32) : Option (Int32) :=
    if v1 = 0 then
      (some 0)
    else
      rhck (0 ≤ (v1 - 1).toInt ∧ (v1 - 1).toInt < (6 : Nat)) <|
      some (s.1 129 (v1 - 1).toNatClampNeg)
set_option maxHeartbeats 400000 in
set_option maxRecDepth 100000 in
theorem e_X12_beginOf {Γ : rhG} {R : Nat → Nat → Nat} (hS : ShS Γ R) {s : ryS} : ∀ (v1 : Int32), f_X12_beginOf Γ (ryM s R) 102 v1 = g_X12_beginOf s v1 := by
  intros
  simp only [f_X12_beginOf, g_X12_beginOf, rhck, ryM_1, ryM_2, ryM_3, ry_si, ry_sl, if_true, ry_ck, Option.map_some, Option.map_none, ry_ite, ry_bm, ry_mb, Nat.add_assoc, Nat.reduceAdd, Option.some_bind, Option.bind_some, ssk_102 hS, ssk_129 hS, ssl_129 hS, ssr_102_40 hS]
def g_X12_roomOn_37 (s : ryS) : Nat → Int32 → Int32 → Int32 → Option (Int32)
  | 0, _, _, _ => none
  | n + 1, v1, v2, v3 =>
    rhck (0 ≤ (v1).toInt ∧ (v1).toInt < (6 : Nat)) <|
    if v3 < (s.1 129 v1.toNatClampNeg) then
      (rhck (0 ≤ (v3).toInt ∧ (v3).toInt < (8 : Nat)) <|
      rhck (0 ≤ ((8 * (s.1 102 34)) + (s.1 128 v3.toNatClampNeg)).toInt ∧ ((8 * (s.1 102 34)) + (s.1 128 v3.toNatClampNeg)).toInt < (16 : Nat)) <|
      let x3 := v2 - (s.1 113 ((8 * (s.1 102 34)) + (s.1 128 v3.toNatClampNeg)).toNatClampNeg)
      let x4 : Int32 := v3 + 1
      g_X12_roomOn_37 s n v1 x3 x4)
    else
      some v2
def g_X12_roomOn_29 (s : ryS) (v1 : Int32) (w0 : Int32) (w1 : Int32) : Option (Int32) :=
    let x1 := w0 + w1
    (g_X12_beginOf s v1).bind fun r2 =>
    g_X12_roomOn_37 s rhFU v1 x1 r2
def g_X12_roomOn (s : ryS) (v1 : Int32) : Option (Int32) :=
    rhck (0 ≤ ((5 * (s.1 102 34)) + v1).toInt ∧ ((5 * (s.1 102 34)) + v1).toInt < (10 : Nat)) <|
    if v1 = (s.1 102 44) then
      (g_X12_roomOn_29 s v1 (s.1 112 ((5 * (s.1 102 34)) + v1).toNatClampNeg) (s.1 102 45))
    else
      g_X12_roomOn_29 s v1 (s.1 112 ((5 * (s.1 102 34)) + v1).toNatClampNeg) 0
set_option maxHeartbeats 400000 in
set_option maxRecDepth 100000 in
theorem e_X12_roomOn_37 {Γ : rhG} {R : Nat → Nat → Nat} (hS : ShS Γ R) {s : ryS} : ∀ (n : Nat) (v1 : Int32) (v2 : Int32) (v3 : Int32), f_X12_roomOn_37 Γ (ryM s R) n 102 v1 v2 v3 = g_X12_roomOn_37 s n v1 v2 v3 := by
  intro n
  induction n with
  | zero => intros; simp only [f_X12_roomOn_37, g_X12_roomOn_37, Option.map_none]
  | succ n ih =>
    intros
    simp only [f_X12_roomOn_37, g_X12_roomOn_37, rhck, ryM_1, ryM_2, ryM_3, ry_si, ry_sl, if_true, ry_ck, Option.map_some, Option.map_none, ry_ite, ry_bm, ry_mb, Nat.add_assoc, Nat.reduceAdd, Option.some_bind, Option.bind_some, ssk_102 hS, ssk_113 hS, ssk_128 hS, ssk_129 hS, ssl_113 hS, ssl_128 hS, ssl_129 hS, ssr_102_19 hS, ssr_102_39 hS, ssr_102_40 hS, ih]
set_option maxHeartbeats 400000 in
set_option maxRecDepth 100000 in
theorem e_X12_roomOn_29 {Γ : rhG} {R : Nat → Nat → Nat} (hS : ShS Γ R) {s : ryS} : ∀ (v1 : Int32) (w0 : Int32) (w1 : Int32), f_X12_roomOn_29 Γ (ryM s R) 102 v1 w0 w1 = g_X12_roomOn_29 s v1 w0 w1 := by
  intros
  simp only [f_X12_roomOn_29, g_X12_roomOn_29, rhck, ryM_1, ryM_2, ryM_3, ry_si, ry_sl, if_true, ry_ck, Option.map_some, Option.map_none, ry_ite, ry_bm, ry_mb, Nat.add_assoc, Nat.reduceAdd, Option.some_bind, Option.bind_some, ssk_102 hS, e_X12_beginOf hS, e_X12_roomOn_37 hS]
set_option maxHeartbeats 400000 in
set_option maxRecDepth 100000 in
theorem e_X12_roomOn {Γ : rhG} {R : Nat → Nat → Nat} (hS : ShS Γ R) {s : ryS} : ∀ (v1 : Int32), f_X12_roomOn Γ (ryM s R) 102 v1 = g_X12_roomOn s v1 := by
  intros
  simp only [f_X12_roomOn, g_X12_roomOn, rhck, ryM_1, ryM_2, ryM_3, ry_si, ry_sl, if_true, ry_ck, Option.map_some, Option.map_none, ry_ite, ry_bm, ry_mb, Nat.add_assoc, Nat.reduceAdd, Option.some_bind, Option.bind_some, ssk_102 hS, ssk_112 hS, ssl_112 hS, ssr_102_18 hS, e_X12_roomOn_29 hS]
def g_X12_sumOf_13 (l1 : Nat) (s : ryS) : Nat → Nat → Int32 → Int32 → Int32 → Option (Int32)
  | 0, _, _, _, _ => none
  | n + 1, v1, v2, v4, v5 =>
    rhck (0 ≤ (v2).toInt ∧ (v2).toInt < (6 : Nat)) <|
    if v5 < (s.1 129 v2.toNatClampNeg) then
      (rhck (0 ≤ (v5).toInt ∧ (v5).toInt < (8 : Nat)) <|
      rhck (0 ≤ ((8 * (s.1 102 34)) + (s.1 128 v5.toNatClampNeg)).toInt ∧ ((8 * (s.1 102 34)) + (s.1 128 v5.toNatClampNeg)).toInt < l1) <|
      let x2 := v4 + (s.1 v1 ((8 * (s.1 102 34)) + (s.1 128 v5.toNatClampNeg)).toNatClampNeg)
      let x3 : Int32 := v5 + 1
      g_X12_sumOf_13 l1 s n v1 v2 x2 x3)
    else
      some v4
def g_X12_sumOf (l1 : Nat) (s : ryS) (v1 : Nat) (v2 : Int32) (v3 : Int32) : Option (Int32) :=
    rhck (0 ≤ (v2).toInt ∧ (v2).toInt < (6 : Nat)) <|
    let x1 := (s.1 129 v2.toNatClampNeg) - v3
    g_X12_sumOf_13 l1 s rhFU v1 v2 0 x1
set_option maxHeartbeats 400000 in
set_option maxRecDepth 100000 in
theorem e_X12_sumOf_13 {Γ : rhG} {R : Nat → Nat → Nat} {l1 : Nat} {v1 : Nat} (hS : ShS Γ R) (ha_1 : Γ.2.2.1 v1 = 15 ∧ Γ.2.2.2 v1 = l1) {s : ryS} : ∀ (n : Nat) (v2 : Int32) (v4 : Int32) (v5 : Int32), f_X12_sumOf_13 Γ (ryM s R) n 102 v1 v2 v4 v5 = g_X12_sumOf_13 l1 s n v1 v2 v4 v5 := by
  intro n
  induction n with
  | zero => intros; simp only [f_X12_sumOf_13, g_X12_sumOf_13, Option.map_none]
  | succ n ih =>
    intros
    simp only [f_X12_sumOf_13, g_X12_sumOf_13, rhck, ryM_1, ryM_2, ryM_3, ry_si, ry_sl, if_true, ry_ck, Option.map_some, Option.map_none, ry_ite, ry_bm, ry_mb, Nat.add_assoc, Nat.reduceAdd, Option.some_bind, Option.bind_some, ha_1.1, ha_1.2, ssk_102 hS, ssk_128 hS, ssk_129 hS, ssl_128 hS, ssl_129 hS, ssr_102_39 hS, ssr_102_40 hS, ih]
set_option maxHeartbeats 400000 in
set_option maxRecDepth 100000 in
theorem e_X12_sumOf {Γ : rhG} {R : Nat → Nat → Nat} {l1 : Nat} {v1 : Nat} (hS : ShS Γ R) (ha_1 : Γ.2.2.1 v1 = 15 ∧ Γ.2.2.2 v1 = l1) {s : ryS} : ∀ (v2 : Int32) (v3 : Int32), f_X12_sumOf Γ (ryM s R) 102 v1 v2 v3 = g_X12_sumOf l1 s v1 v2 v3 := by
  intros
  simp only [f_X12_sumOf, g_X12_sumOf, rhck, ryM_1, ryM_2, ryM_3, ry_si, ry_sl, if_true, ry_ck, Option.map_some, Option.map_none, ry_ite, ry_bm, ry_mb, Nat.add_assoc, Nat.reduceAdd, Option.some_bind, Option.bind_some, ssk_102 hS, ssk_129 hS, ssl_129 hS, ssr_102_40 hS, e_X12_sumOf_13 hS ha_1]
def g_X12_amount_145 (s : ryS) : Nat → Int32 → Int32 → Int32 → Option (Int32)
  | 0, _, _, _ => none
  | n + 1, v1, v2, v5 =>
    rhck (0 ≤ (v2).toInt ∧ (v2).toInt < (6 : Nat)) <|
    if v5 < (s.1 129 v2.toNatClampNeg) then
      (rhck (0 ≤ (v5).toInt ∧ (v5).toInt < (8 : Nat)) <|
      rhck (0 ≤ (v1).toInt ∧ (v1).toInt < (1000 : Nat)) <|
      if (s.1 128 v5.toNatClampNeg) = (s.1 124 v1.toNatClampNeg) then
        (some 1)
      else
        let x2 : Int32 := v5 + 1
        g_X12_amount_145 s n v1 v2 x2)
    else
      some 0
def g_X12_amount (s : ryS) (v1 : Int32) (v2 : Int32) (v3 : Int32) (v4 : Int32) : Option (Int32) :=
    rhck (0 ≤ (v1).toInt ∧ (v1).toInt < (1000 : Nat)) <|
    if (s.1 123 v1.toNatClampNeg) = 102 then
      (some v2)
    else
    if (s.1 123 v1.toNatClampNeg) = 103 then
      (rhck (0 ≤ (v2).toInt ∧ (v2).toInt < (6 : Nat)) <|
      let x1 := (s.1 129 v2.toNatClampNeg) - v3
      g_X12_amount_145 s rhFU v1 v2 x1)
    else
    if (s.1 123 v1.toNatClampNeg) = 104 then
      (rhck (0 ≤ (v2).toInt ∧ (v2).toInt < (6 : Nat)) <|
      let x3 := (s.1 129 v2.toNatClampNeg) - v3
      g_X12_amount_145 s rhFU v1 v2 x3)
    else
    if (s.1 123 v1.toNatClampNeg) = 105 then
      (rhck (0 ≤ (v2).toInt ∧ (v2).toInt < (6 : Nat)) <|
      let x4 := (s.1 129 v2.toNatClampNeg) - v3
      g_X12_amount_145 s rhFU v1 v2 x4)
    else
    if (s.1 123 v1.toNatClampNeg) = 106 then
      (rhck (0 ≤ (v2).toInt ∧ (v2).toInt < (6 : Nat)) <|
      let x5 := (s.1 129 v2.toNatClampNeg) - v3
      g_X12_amount_145 s rhFU v1 v2 x5)
    else
    if (s.1 123 v1.toNatClampNeg) = 107 then
      (rhck (0 ≤ (v2).toInt ∧ (v2).toInt < (6 : Nat)) <|
      let x6 := (s.1 129 v2.toNatClampNeg) - v3
      g_X12_amount_145 s rhFU v1 v2 x6)
    else
    if (s.1 123 v1.toNatClampNeg) = 108 then
      ((g_X12_sumOf (16 : Nat) s 113 v2 v3).bind fun r7 =>
      some r7)
    else
    if (s.1 123 v1.toNatClampNeg) = 109 then
      (some v3)
    else
    if (s.1 123 v1.toNatClampNeg) = 110 then
      (rhck (0 ≤ (v1).toInt ∧ (v1).toInt < (1000 : Nat)) <|
      some (s.1 124 v1.toNatClampNeg))
    else
    if (s.1 123 v1.toNatClampNeg) = 111 then
      (rhck (0 ≤ (v2).toInt ∧ (v2).toInt < (6 : Nat)) <|
      let x8 := (s.1 129 v2.toNatClampNeg) - v3
      g_X12_amount_145 s rhFU v1 v2 x8)
    else
    if (s.1 123 v1.toNatClampNeg) = 112 then
      (rhck (0 ≤ (v2).toInt ∧ (v2).toInt < (6 : Nat)) <|
      let x9 := (s.1 129 v2.toNatClampNeg) - v3
      g_X12_amount_145 s rhFU v1 v2 x9)
    else
    if (s.1 123 v1.toNatClampNeg) = 113 then
      (rhck (0 ≤ (v2).toInt ∧ (v2).toInt < (6 : Nat)) <|
      let x10 := (s.1 129 v2.toNatClampNeg) - v3
      g_X12_amount_145 s rhFU v1 v2 x10)
    else
    if (s.1 123 v1.toNatClampNeg) = 114 then
      ((g_X12_roomOn s v4).bind fun r11 =>
      some r11)
    else
    if (s.1 123 v1.toNatClampNeg) = 115 then
      (rhck (0 ≤ (v2).toInt ∧ (v2).toInt < (6 : Nat)) <|
      let x12 := (s.1 129 v2.toNatClampNeg) - v3
      g_X12_amount_145 s rhFU v1 v2 x12)
    else
    if (s.1 123 v1.toNatClampNeg) = 116 then
      (some v4)
    else
    if (s.1 123 v1.toNatClampNeg) = 117 then
      (rhck (0 ≤ (v2).toInt ∧ (v2).toInt < (6 : Nat)) <|
      let x13 := (s.1 129 v2.toNatClampNeg) - v3
      g_X12_amount_145 s rhFU v1 v2 x13)
    else
    if (s.1 123 v1.toNatClampNeg) = 118 then
      (rhck (0 ≤ (v2).toInt ∧ (v2).toInt < (6 : Nat)) <|
      let x14 := (s.1 129 v2.toNatClampNeg) - v3
      g_X12_amount_145 s rhFU v1 v2 x14)
    else
    if (s.1 123 v1.toNatClampNeg) = 119 then
      ((g_X12_sumOf (16 : Nat) s 114 v2 v3).bind fun r15 =>
      some r15)
    else
    rhck (0 ≤ (v2).toInt ∧ (v2).toInt < (6 : Nat)) <|
    let x16 := (s.1 129 v2.toNatClampNeg) - v3
    g_X12_amount_145 s rhFU v1 v2 x16
set_option maxHeartbeats 400000 in
set_option maxRecDepth 100000 in
theorem e_X12_amount_145 {Γ : rhG} {R : Nat → Nat → Nat} (hS : ShS Γ R) {s : ryS} : ∀ (n : Nat) (v1 : Int32) (v2 : Int32) (v5 : Int32), f_X12_amount_145 Γ (ryM s R) n 102 v1 v2 v5 = g_X12_amount_145 s n v1 v2 v5 := by
  intro n
  induction n with
  | zero => intros; simp only [f_X12_amount_145, g_X12_amount_145, Option.map_none]
  | succ n ih =>
    intros
    simp only [f_X12_amount_145, g_X12_amount_145, rhck, ryM_1, ryM_2, ryM_3, ry_si, ry_sl, if_true, ry_ck, Option.map_some, Option.map_none, ry_ite, ry_bm, ry_mb, Nat.add_assoc, Nat.reduceAdd, Option.some_bind, Option.bind_some, ssk_102 hS, ssk_124 hS, ssk_128 hS, ssk_129 hS, ssl_124 hS, ssl_128 hS, ssl_129 hS, ssr_102_30 hS, ssr_102_39 hS, ssr_102_40 hS, ih]
set_option maxHeartbeats 400000 in
set_option maxRecDepth 100000 in
theorem e_X12_amount {Γ : rhG} {R : Nat → Nat → Nat} (hS : ShS Γ R) {s : ryS} : ∀ (v1 : Int32) (v2 : Int32) (v3 : Int32) (v4 : Int32), f_X12_amount Γ (ryM s R) 102 v1 v2 v3 v4 = g_X12_amount s v1 v2 v3 v4 := by
  intros
  simp only [f_X12_amount, g_X12_amount, rhck, ryM_1, ryM_2, ryM_3, ry_si, ry_sl, if_true, ry_ck, Option.map_some, Option.map_none, ry_ite, ry_bm, ry_mb, Nat.add_assoc, Nat.reduceAdd, Option.some_bind, Option.bind_some, ssk_102 hS, ssk_113 hS, ssk_114 hS, ssk_123 hS, ssk_124 hS, ssk_129 hS, ssl_113 hS, ssl_114 hS, ssl_123 hS, ssl_124 hS, ssl_129 hS, ssr_102_19 hS, ssr_102_20 hS, ssr_102_29 hS, ssr_102_30 hS, ssr_102_40 hS, e_X12_sumOf hS ⟨ssk_113 hS, ssl_113 hS⟩, e_X12_roomOn hS, e_X12_sumOf hS ⟨ssk_114 hS, ssl_114 hS⟩, e_X12_amount_145 hS]
def g_X12_isIn (s : ryS) (v0 : Int32) (v1 : Int32) (v2 : Int32) : Option (Int32) :=
    if v0 < v1 then
      (some 0)
    else
      if v2 < v0 then
        (some 0)
      else
        some 1
set_option maxHeartbeats 400000 in
set_option maxRecDepth 100000 in
theorem e_X12_isIn {Γ : rhG} {R : Nat → Nat → Nat} {s : ryS} : ∀ (v0 : Int32) (v1 : Int32) (v2 : Int32), f_X12_isIn Γ (ryM s R) v0 v1 v2 = g_X12_isIn s v0 v1 v2 := by
  intros
  simp only [f_X12_isIn, g_X12_isIn, rhck, ryM_1, ryM_2, ryM_3, ry_si, ry_sl, if_true, ry_ck, Option.map_some, Option.map_none, ry_ite, ry_bm, ry_mb, Nat.add_assoc, Nat.reduceAdd, Option.some_bind, Option.bind_some]
def g_X12_isRail (s : ryS) (v1 : Int32) : Option (Int32) :=
    (g_X12_railMany s).bind fun r1 =>
    (g_X12_isIn s v1 (0 : Int32) (r1 - 1)).bind fun r2 =>
    rhck (r2 = 0 ∨ r2 = 1) <|
    some r2
set_option maxHeartbeats 400000 in
set_option maxRecDepth 100000 in
theorem e_X12_isRail {Γ : rhG} {R : Nat → Nat → Nat} (hS : ShS Γ R) {s : ryS} : ∀ (v1 : Int32), f_X12_isRail Γ (ryM s R) 102 v1 = g_X12_isRail s v1 := by
  intros
  simp only [f_X12_isRail, g_X12_isRail, rhck, ryM_1, ryM_2, ryM_3, ry_si, ry_sl, if_true, ry_ck, Option.map_some, Option.map_none, ry_ite, ry_bm, ry_mb, Nat.add_assoc, Nat.reduceAdd, Option.some_bind, Option.bind_some, ssk_102 hS, e_X12_railMany hS, e_X12_isIn]
def g_X12_canBe (s : ryS) (v1 : Int32) (v2 : Int32) (v3 : Int32) : Option (Int32) :=
    (g_X12_isRail s v1).bind fun r1 =>
    if r1 = 0 then
      (some 0)
    else
      (g_X12_isRail s v3).bind fun r2 =>
      if r2 = 0 then
        (some 0)
      else
        if v1 = v3 then
          (some 0)
        else
          if v2 < 1 then
            (some 0)
          else
            rhck (0 ≤ (v1).toInt ∧ (v1).toInt < (6 : Nat)) <|
            (g_X12_beginOf s v1).bind fun r3 =>
            if ((s.1 129 v1.toNatClampNeg) - r3) < v2 then
              (some 0)
            else
              some 1
set_option maxHeartbeats 400000 in
set_option maxRecDepth 100000 in
theorem e_X12_canBe {Γ : rhG} {R : Nat → Nat → Nat} (hS : ShS Γ R) {s : ryS} : ∀ (v1 : Int32) (v2 : Int32) (v3 : Int32), f_X12_canBe Γ (ryM s R) 102 v1 v2 v3 = g_X12_canBe s v1 v2 v3 := by
  intros
  simp only [f_X12_canBe, g_X12_canBe, rhck, ryM_1, ryM_2, ryM_3, ry_si, ry_sl, if_true, ry_ck, Option.map_some, Option.map_none, ry_ite, ry_bm, ry_mb, Nat.add_assoc, Nat.reduceAdd, Option.some_bind, Option.bind_some, ssk_102 hS, ssk_129 hS, ssl_129 hS, ssr_102_40 hS, e_X12_isRail hS, e_X12_isRail hS, e_X12_beginOf hS]
def g_X12_two (s : ryS) (v0 : Int32) (v1 : Int32) (v2 : Int32) : Option (Int32) :=
    if v0 = 38 then
      (if v1 = 0 then
        (some 0)
      else
        if v2 = 0 then
          (some 0)
        else
          some 1)
    else
    if v0 = 39 then
      (if v1 = 0 then
        (if v2 = 0 then
          (some 0)
        else
          some 1)
      else
        some 1)
    else
    if v0 = 40 then
      (if v1 = 0 then
        (if v2 = 0 then
          (some 0)
        else
          some 1)
      else
        some 1)
    else
    if v0 = 41 then
      (if v1 = 0 then
        (if v2 = 0 then
          (some 0)
        else
          some 1)
      else
        some 1)
    else
    if v0 = 42 then
      (some (v1 * v2))
    else
    if v0 = 43 then
      (some (v1 + v2))
    else
    if v0 = 44 then
      (if v1 = 0 then
        (if v2 = 0 then
          (some 0)
        else
          some 1)
      else
        some 1)
    else
    if v0 = 45 then
      (some (v1 - v2))
    else
    if v0 = 46 then
      (if v1 = 0 then
        (if v2 = 0 then
          (some 0)
        else
          some 1)
      else
        some 1)
    else
    if v0 = 47 then
      (if v2 = 0 then
        (some 0)
      else
        rhck (¬ v2 = 0) <|
        some (v1 / v2))
    else
    if v0 = 48 then
      (if v1 = 0 then
        (if v2 = 0 then
          (some 0)
        else
          some 1)
      else
        some 1)
    else
    if v0 = 49 then
      (if v1 = 0 then
        (if v2 = 0 then
          (some 0)
        else
          some 1)
      else
        some 1)
    else
    if v0 = 50 then
      (if v1 = 0 then
        (if v2 = 0 then
          (some 0)
        else
          some 1)
      else
        some 1)
    else
    if v0 = 51 then
      (if v1 = 0 then
        (if v2 = 0 then
          (some 0)
        else
          some 1)
      else
        some 1)
    else
    if v0 = 52 then
      (if v1 = 0 then
        (if v2 = 0 then
          (some 0)
        else
          some 1)
      else
        some 1)
    else
    if v0 = 53 then
      (if v1 = 0 then
        (if v2 = 0 then
          (some 0)
        else
          some 1)
      else
        some 1)
    else
    if v0 = 54 then
      (if v1 = 0 then
        (if v2 = 0 then
          (some 0)
        else
          some 1)
      else
        some 1)
    else
    if v0 = 55 then
      (if v1 = 0 then
        (if v2 = 0 then
          (some 0)
        else
          some 1)
      else
        some 1)
    else
    if v0 = 56 then
      (if v1 = 0 then
        (if v2 = 0 then
          (some 0)
        else
          some 1)
      else
        some 1)
    else
    if v0 = 57 then
      (if v1 = 0 then
        (if v2 = 0 then
          (some 0)
        else
          some 1)
      else
        some 1)
    else
    if v0 = 58 then
      (if v1 = 0 then
        (if v2 = 0 then
          (some 0)
        else
          some 1)
      else
        some 1)
    else
    if v0 = 59 then
      (if v1 = 0 then
        (if v2 = 0 then
          (some 0)
        else
          some 1)
      else
        some 1)
    else
    if v0 = 60 then
      (if v1 < v2 then
        (some 1)
      else
        some 0)
    else
    if v0 = 61 then
      (if v1 = v2 then
        (some 1)
      else
        some 0)
    else
    if v0 = 62 then
      (if v2 < v1 then
        (some 1)
      else
        some 0)
    else
    if v1 = 0 then
      (if v2 = 0 then
        (some 0)
      else
        some 1)
    else
      some 1
set_option maxHeartbeats 400000 in
set_option maxRecDepth 100000 in
theorem e_X12_two {Γ : rhG} {R : Nat → Nat → Nat} {s : ryS} : ∀ (v0 : Int32) (v1 : Int32) (v2 : Int32), f_X12_two Γ (ryM s R) v0 v1 v2 = g_X12_two s v0 v1 v2 := by
  intros
  simp only [f_X12_two, g_X12_two, rhck, ryM_1, ryM_2, ryM_3, ry_si, ry_sl, if_true, ry_ck, Option.map_some, Option.map_none, ry_ite, ry_bm, ry_mb, Nat.add_assoc, Nat.reduceAdd, Option.some_bind, Option.bind_some]
def g_X12_comes_82 (k149 : ryS → Int32 → Int32 → Int32 → Int32 → Int32 → Option (Int32 × ryS)) (s : ryS) (v1 : Int32) (v2 : Int32) (v3 : Int32) (v4 : Int32) (v5 : Int32) (w1 : Int32) (w2 : Int32) : Option (Int32 × ryS) :=
    rhck (0 ≤ (w1).toInt ∧ (w1).toInt < (70 : Nat)) <|
    let s3 := rysi s 127 (w1 : Int32).toNatClampNeg w2
    k149 s3 v1 v2 v3 v4 v5
def g_X12_comes_149 (k27 : ryS → Int32 → Int32 → Int32 → Int32 → Int32 → Option (Int32 × ryS)) (s : ryS) (v1 : Int32) (v2 : Int32) (v3 : Int32) (v4 : Int32) (v5 : Int32) : Option (Int32 × ryS) :=
    let x4 : Int32 := v5 + 1
    k27 s v1 v2 v3 v4 x4
def g_X12_comes_27 : Nat → ryS → Int32 → Int32 → Int32 → Int32 → Int32 → Option (Int32 × ryS)
  | 0, _, _, _, _, _, _ => none
  | n + 1, s, v1, v2, v3, v4, v5 =>
    rhck (0 ≤ (s.1 102 34).toInt ∧ (s.1 102 34).toInt < (2 : Nat)) <|
    if v5 < (s.1 111 (s.1 102 34).toNatClampNeg) then
      (rhck (0 ≤ (v5).toInt ∧ (v5).toInt < (1000 : Nat)) <|
      let x2 := s.1 123 v5.toNatClampNeg
      if x2 = 126 then
        (rhck (0 ≤ (v4 - 1).toInt ∧ (v4 - 1).toInt < (70 : Nat)) <|
        if (s.1 127 (v4 - 1).toNatClampNeg) = 0 then
          (g_X12_comes_82 (g_X12_comes_149 (g_X12_comes_27 n)) s v1 v2 v3 v4 v5 (v4 - 1) 1)
        else
          g_X12_comes_82 (g_X12_comes_149 (g_X12_comes_27 n)) s v1 v2 v3 v4 v5 (v4 - 1) 0)
      else
        (g_X12_isLetter s x2).bind fun r5 =>
        if r5 = 0 then
          (let x6 : Int32 := v4 + (-1)
          rhck (0 ≤ (x6 - 1).toInt ∧ (x6 - 1).toInt < (70 : Nat)) <|
          rhck (0 ≤ (x6).toInt ∧ (x6).toInt < (70 : Nat)) <|
          (g_X12_two s x2 (s.1 127 (x6 - 1).toNatClampNeg) (s.1 127 x6.toNatClampNeg)).bind fun r7 =>
          let s8 := rysi s 127 (x6 - 1 : Int32).toNatClampNeg r7
          g_X12_comes_149 (g_X12_comes_27 n) s8 v1 v2 v3 x6 v5)
        else
          (g_X12_amount s v5 v1 v2 v3).bind fun r9 =>
          rhck (0 ≤ (v4).toInt ∧ (v4).toInt < (70 : Nat)) <|
          let s10 := rysi s 127 (v4 : Int32).toNatClampNeg r9
          let x11 : Int32 := v4 + 1
          g_X12_comes_149 (g_X12_comes_27 n) s10 v1 v2 v3 x11 v5)
    else
      rhck (0 ≤ (0 : Int32).toInt ∧ (0 : Int32).toInt < (70 : Nat)) <|
      some ((s.1 127 (0 : Int32).toNatClampNeg, s))
def g_X12_comes (s : ryS) (v1 : Int32) (v2 : Int32) (v3 : Int32) : Option (Int32 × ryS) :=
    rhck (0 ≤ (s.1 102 34).toInt ∧ (s.1 102 34).toInt < (2 : Nat)) <|
    if (s.1 119 (s.1 102 34).toNatClampNeg) = 0 then
      (some ((1, s)))
    else
      let x1 := 500 * (s.1 102 34)
      g_X12_comes_27 rhFU s v1 v2 v3 0 x1
set_option maxHeartbeats 400000 in
set_option maxRecDepth 100000 in
theorem e_X12_comes_82 {Γ : rhG} {R : Nat → Nat → Nat} (hS : ShS Γ R) {f149 : rhM → Nat → Int32 → Int32 → Int32 → Int32 → Int32 → Option (Int32 × rhM)} {k149 : ryS → Int32 → Int32 → Int32 → Int32 → Int32 → Option (Int32 × ryS)} (hk149 : ∀ (s : ryS) (v1 : Int32) (v2 : Int32) (v3 : Int32) (v4 : Int32) (v5 : Int32), f149 (ryM s R) 102 v1 v2 v3 v4 v5 = Option.map (fun q => (q.1, ryM q.2 R)) (k149 s v1 v2 v3 v4 v5)) : ∀ (s : ryS) (v1 : Int32) (v2 : Int32) (v3 : Int32) (v4 : Int32) (v5 : Int32) (w1 : Int32) (w2 : Int32), f_X12_comes_82 f149 Γ (ryM s R) 102 v1 v2 v3 v4 v5 127 w1 w2 = Option.map (fun q => (q.1, ryM q.2 R)) (g_X12_comes_82 k149 s v1 v2 v3 v4 v5 w1 w2) := by
  intros
  simp only [f_X12_comes_82, g_X12_comes_82, rhck, ryM_1, ryM_2, ryM_3, ry_si, ry_sl, if_true, ry_ck, Option.map_some, Option.map_none, ry_ite, ry_bm, ry_mb, Nat.add_assoc, Nat.reduceAdd, Option.some_bind, Option.bind_some, ssk_127 hS, ssl_127 hS, hk149]
set_option maxHeartbeats 400000 in
set_option maxRecDepth 100000 in
theorem e_X12_comes_149 {Γ : rhG} {R : Nat → Nat → Nat} (hS : ShS Γ R) {f27 : rhM → Nat → Int32 → Int32 → Int32 → Int32 → Int32 → Option (Int32 × rhM)} {k27 : ryS → Int32 → Int32 → Int32 → Int32 → Int32 → Option (Int32 × ryS)} (hk27 : ∀ (s : ryS) (v1 : Int32) (v2 : Int32) (v3 : Int32) (v4 : Int32) (v5 : Int32), f27 (ryM s R) 102 v1 v2 v3 v4 v5 = Option.map (fun q => (q.1, ryM q.2 R)) (k27 s v1 v2 v3 v4 v5)) : ∀ (s : ryS) (v1 : Int32) (v2 : Int32) (v3 : Int32) (v4 : Int32) (v5 : Int32), f_X12_comes_149 f27 Γ (ryM s R) 102 v1 v2 v3 v4 v5 = Option.map (fun q => (q.1, ryM q.2 R)) (g_X12_comes_149 k27 s v1 v2 v3 v4 v5) := by
  intros
  simp only [f_X12_comes_149, g_X12_comes_149, rhck, ryM_1, ryM_2, ryM_3, ry_si, ry_sl, if_true, ry_ck, Option.map_some, Option.map_none, ry_ite, ry_bm, ry_mb, Nat.add_assoc, Nat.reduceAdd, Option.some_bind, Option.bind_some, hk27]
set_option maxHeartbeats 400000 in
set_option maxRecDepth 100000 in
theorem e_X12_comes_27 {Γ : rhG} {R : Nat → Nat → Nat} (hS : ShS Γ R) : ∀ (n : Nat) (s : ryS) (v1 : Int32) (v2 : Int32) (v3 : Int32) (v4 : Int32) (v5 : Int32), f_X12_comes_27 Γ n (ryM s R) 102 v1 v2 v3 v4 v5 = Option.map (fun q => (q.1, ryM q.2 R)) (g_X12_comes_27 n s v1 v2 v3 v4 v5) := by
  intro n
  induction n with
  | zero => intros; simp only [f_X12_comes_27, g_X12_comes_27, Option.map_none]
  | succ n ih =>
    intros
    simp only [f_X12_comes_27, g_X12_comes_27, rhck, ryM_1, ryM_2, ryM_3, ry_si, ry_sl, if_true, ry_ck, Option.map_some, Option.map_none, ry_ite, ry_bm, ry_mb, Nat.add_assoc, Nat.reduceAdd, Option.some_bind, Option.bind_some, ssk_102 hS, ssk_111 hS, ssk_123 hS, ssk_127 hS, ssl_111 hS, ssl_123 hS, ssl_127 hS, ssr_102_17 hS, ssr_102_29 hS, ssr_102_33 hS, e_X12_isLetter, e_X12_two, e_X12_amount hS, e_X12_comes_82 hS (e_X12_comes_149 hS ih), e_X12_comes_149 hS ih, ih]
set_option maxHeartbeats 400000 in
set_option maxRecDepth 100000 in
theorem e_X12_comes {Γ : rhG} {R : Nat → Nat → Nat} (hS : ShS Γ R) : ∀ (s : ryS) (v1 : Int32) (v2 : Int32) (v3 : Int32), f_X12_comes Γ (ryM s R) 102 v1 v2 v3 = Option.map (fun q => (q.1, ryM q.2 R)) (g_X12_comes s v1 v2 v3) := by
  intros
  simp only [f_X12_comes, g_X12_comes, rhck, ryM_1, ryM_2, ryM_3, ry_si, ry_sl, if_true, ry_ck, Option.map_some, Option.map_none, ry_ite, ry_bm, ry_mb, Nat.add_assoc, Nat.reduceAdd, Option.some_bind, Option.bind_some, ssk_102 hS, ssk_119 hS, ssl_119 hS, ssr_102_25 hS, e_X12_comes_27 hS]
