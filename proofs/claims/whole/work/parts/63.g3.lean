def g_X9_addHouse_20 (k68 : ryS → Nat → Option (ryS)) : Nat → ryS → Nat → Int32 → Int32 → Int32 → Int32 → Option (ryS)
  | 0, _, _, _, _, _, _ => none
  | n + 1, s, v0, v1, v2, v3, v4 =>
    if v4 < v3 then
      (rhck (0 ≤ (v4).toInt ∧ (v4).toInt < (256 : Nat)) <|
      rhck (0 ≤ (v4 ||| v3).toInt ∧ (v4 ||| v3).toInt < (256 : Nat)) <|
      let s2 := rysi s ((v0 + 2)) (v4 ||| v3 : Int32).toNatClampNeg (((s.1 ((v0 + 2)) v4.toNatClampNeg) + v1))
      rhck (0 ≤ (v4).toInt ∧ (v4).toInt < (256 : Nat)) <|
      rhck (0 ≤ (v4 ||| v3).toInt ∧ (v4 ||| v3).toInt < (256 : Nat)) <|
      let s3 := rysi s2 ((v0 + 3)) (v4 ||| v3 : Int32).toNatClampNeg (((s2.1 ((v0 + 3)) v4.toNatClampNeg) + v2))
      let x4 : Int32 := v4 + 1
      g_X9_addHouse_20 k68 n s3 v0 v1 v2 v3 x4)
    else
      k68 s v0
def g_X9_addHouse_68 (s : ryS) (v0 : Nat) : Option (ryS) :=
    let s5 := rysi s v0 1 ((s.1 v0 1) + 1)
    some s5
def g_X9_addHouse (s : ryS) (v0 : Nat) (v1 : Int32) (v2 : Int32) : Option (ryS) :=
    if (s.1 v0 1) < 8 then
      (let x1 := 1 <<< ((s.1 v0 1) &&& 31)
      g_X9_addHouse_20 (g_X9_addHouse_68) rhFU s v0 v1 v2 x1 0)
    else
      some s
set_option maxHeartbeats 400000 in
set_option maxRecDepth 100000 in
theorem e_X9_addHouse_20 {Γ : rhG} {R : Nat → Nat → Nat} {v0 : Nat} (hO_9_v0 : Sh9 Γ R v0) {f68 : rhM → Nat → Option (rhM)} {k68 : ryS → Nat → Option (ryS)} (hk68 : ∀ (s : ryS) (v0 : Nat), f68 (ryM s R) v0 = Option.map (fun s => ryM s R) (k68 s v0)) : ∀ (n : Nat) (s : ryS) (v1 : Int32) (v2 : Int32) (v3 : Int32) (v4 : Int32), f_X9_addHouse_20 f68 Γ n (ryM s R) v0 v1 v2 v3 v4 = Option.map (fun s => ryM s R) (g_X9_addHouse_20 k68 n s v0 v1 v2 v3 v4) := by
  have z9v0 := hO_9_v0
  obtain ⟨q9v0_0, q9v0_1, q9v0_2, q9v0_3, q9v0_4, q9v0_5, q9v0_6, q9v0_7, q9v0_8, q9v0_9, q9v0_10, q9v0_11, q9v0_12, q9v0_13, q9v0_14, q9v0_15, q9v0_16, hO_1_v0⟩ := z9v0
  obtain ⟨q1v0_0, q1v0_1, q1v0_2, q1v0_3, q1v0_4, q1v0_5, q1v0_6, q1v0_7, q1v0_8, q1v0_9, q1v0_10, q1v0_11, q1v0_12⟩ := hO_1_v0
  intro n
  induction n with
  | zero => intros; simp only [f_X9_addHouse_20, g_X9_addHouse_20, Option.map_none]
  | succ n ih =>
    intros
    simp only [f_X9_addHouse_20, g_X9_addHouse_20, rhck, ryM_1, ryM_2, ryM_3, ry_si, ry_sl, if_true, ry_ck, Option.map_some, Option.map_none, ry_ite, ry_bm, ry_mb, Nat.add_assoc, Nat.reduceAdd, Option.some_bind, Option.bind_some, q9v0_0, q9v0_1, q9v0_2, q9v0_3, q9v0_4, q9v0_5, q9v0_6, q9v0_7, q9v0_8, q9v0_9, q9v0_10, q9v0_11, q9v0_12, q9v0_13, q9v0_14, q9v0_15, q9v0_16, q1v0_0, q1v0_1, q1v0_2, q1v0_3, q1v0_4, q1v0_5, q1v0_6, q1v0_7, q1v0_8, q1v0_9, q1v0_10, q1v0_11, q1v0_12, hk68, ih]
set_option maxHeartbeats 400000 in
set_option maxRecDepth 100000 in
theorem e_X9_addHouse_68 {Γ : rhG} {R : Nat → Nat → Nat} {v0 : Nat} (hO_9_v0 : Sh9 Γ R v0) : ∀ (s : ryS), f_X9_addHouse_68 Γ (ryM s R) v0 = Option.map (fun s => ryM s R) (g_X9_addHouse_68 s v0) := by
  have z9v0 := hO_9_v0
  obtain ⟨q9v0_0, q9v0_1, q9v0_2, q9v0_3, q9v0_4, q9v0_5, q9v0_6, q9v0_7, q9v0_8, q9v0_9, q9v0_10, q9v0_11, q9v0_12, q9v0_13, q9v0_14, q9v0_15, q9v0_16, hO_1_v0⟩ := z9v0
  obtain ⟨q1v0_0, q1v0_1, q1v0_2, q1v0_3, q1v0_4, q1v0_5, q1v0_6, q1v0_7, q1v0_8, q1v0_9, q1v0_10, q1v0_11, q1v0_12⟩ := hO_1_v0
  intros
  simp only [f_X9_addHouse_68, g_X9_addHouse_68, rhck, ryM_1, ryM_2, ryM_3, ry_si, ry_sl, if_true, ry_ck, Option.map_some, Option.map_none, ry_ite, ry_bm, ry_mb, Nat.add_assoc, Nat.reduceAdd, Option.some_bind, Option.bind_some, q9v0_0, q9v0_1, q9v0_2, q9v0_3, q9v0_4, q9v0_5, q9v0_6, q9v0_7, q9v0_8, q9v0_9, q9v0_10, q9v0_11, q9v0_12, q9v0_13, q9v0_14, q9v0_15, q9v0_16, q1v0_0, q1v0_1, q1v0_2, q1v0_3, q1v0_4, q1v0_5, q1v0_6, q1v0_7, q1v0_8, q1v0_9, q1v0_10, q1v0_11, q1v0_12]
set_option maxHeartbeats 400000 in
set_option maxRecDepth 100000 in
theorem e_X9_addHouse {Γ : rhG} {R : Nat → Nat → Nat} {v0 : Nat} (hO_9_v0 : Sh9 Γ R v0) : ∀ (s : ryS) (v1 : Int32) (v2 : Int32), f_X9_addHouse Γ (ryM s R) v0 v1 v2 = Option.map (fun s => ryM s R) (g_X9_addHouse s v0 v1 v2) := by
  have z9v0 := hO_9_v0
  obtain ⟨q9v0_0, q9v0_1, q9v0_2, q9v0_3, q9v0_4, q9v0_5, q9v0_6, q9v0_7, q9v0_8, q9v0_9, q9v0_10, q9v0_11, q9v0_12, q9v0_13, q9v0_14, q9v0_15, q9v0_16, hO_1_v0⟩ := z9v0
  obtain ⟨q1v0_0, q1v0_1, q1v0_2, q1v0_3, q1v0_4, q1v0_5, q1v0_6, q1v0_7, q1v0_8, q1v0_9, q1v0_10, q1v0_11, q1v0_12⟩ := hO_1_v0
  intros
  simp only [f_X9_addHouse, g_X9_addHouse, rhck, ryM_1, ryM_2, ryM_3, ry_si, ry_sl, if_true, ry_ck, Option.map_some, Option.map_none, ry_ite, ry_bm, ry_mb, Nat.add_assoc, Nat.reduceAdd, Option.some_bind, Option.bind_some, q9v0_0, q9v0_1, q9v0_2, q9v0_3, q9v0_4, q9v0_5, q9v0_6, q9v0_7, q9v0_8, q9v0_9, q9v0_10, q9v0_11, q9v0_12, q9v0_13, q9v0_14, q9v0_15, q9v0_16, q1v0_0, q1v0_1, q1v0_2, q1v0_3, q1v0_4, q1v0_5, q1v0_6, q1v0_7, q1v0_8, q1v0_9, q1v0_10, q1v0_11, q1v0_12, e_X9_addHouse_20 hO_9_v0 (e_X9_addHouse_68 hO_9_v0), e_X9_addHouse_68 hO_9_v0]
def g_X4_readHouse_164 (t : Nat) (s : ryS) (v1 : Int64) (v3 : Int32) (v4 : Int32) (v5 : Int32) : Option (ryS) :=
    (g_X4_takeSign s (59 : Int32)).bind fun r16 =>
    if (r16.1 3 0) = 0 then
      (rhck (0 ≤ (r16.1 t 1).toInt ∧ (r16.1 t 1).toInt < (8 : Nat)) <|
      let s17 := rysl r16 8 (r16.1 t 1 : Int32).toNatClampNeg v1
      rhck (0 ≤ (s17.1 t 1).toInt ∧ (s17.1 t 1).toInt < (8 : Nat)) <|
      let s18 := rysi s17 9 (s17.1 t 1 : Int32).toNatClampNeg v5
      rhck (0 ≤ (v5).toInt ∧ (v5).toInt < (5 : Nat)) <|
      let s19 := rysi s18 10 (v5 : Int32).toNatClampNeg (((s18.1 10 v5.toNatClampNeg) ||| (1 <<< ((s18.1 t 1) &&& 31))))
      (g_X9_addHouse s19 t v3 v4).bind fun r20 =>
      some r20)
    else
      some r16
def g_X4_readHouse_137 (t : Nat) (s : ryS) (v1 : Int64) (v3 : Int32) (v4 : Int32) (v5 : Int32) (v6 : Int32) (w0 : Int32) : Option (ryS) :=
    if (s.1 4 9) = 59 then
      (if w0 = 0 then
        ((g_X4_blame s (6 : Int32) v6).bind fun r15 =>
        g_X4_readHouse_164 t r15 v1 v3 v4 v5)
      else
        g_X4_readHouse_164 t s v1 v3 v4 v5)
    else
      g_X4_readHouse_164 t s v1 v3 v4 v5
def g_X4_readHouse_18 (t : Nat) (s : ryS) (w1 : Int32) : Option (ryS) :=
    (g_X4_advanceUnless s w1).bind fun r1 =>
    (g_X4_takeNewName (8 : Nat) r1 8 (r1.1 t 1)).bind fun r2 =>
    let x3 := r2.1
    (g_X4_takeWord r2.2 (6 : Int32)).bind fun r4 =>
    (g_X4_takeNumber r4 (1 : Int32) (9 : Int32) (r4.1 4 5)).bind fun r5 =>
    let x6 := r5.1
    (g_X4_takeWord r5.2 (7 : Int32)).bind fun r7 =>
    (g_X4_takeNumber r7 (1 : Int32) (99 : Int32) (r7.1 4 5)).bind fun r8 =>
    let x9 := r8.1
    (g_X4_takeWord r8.2 (8 : Int32)).bind fun r10 =>
    (g_X4_takeToldName (5 : Nat) r10 7 (r10.1 t 0)).bind fun r11 =>
    let x12 := r11.1
    let x13 := r11.2.1 4 5
    rhck (0 ≤ (x12).toInt ∧ (x12).toInt < (5 : Nat)) <|
    (g_X9_roomBeside r11.2 t x12 (r11.2.1 10 x12.toNatClampNeg)).bind fun r14 =>
    if r14 < x6 then
      (g_X4_readHouse_137 t r11.2 x3 x6 x9 x12 x13 0)
    else
      g_X4_readHouse_137 t r11.2 x3 x6 x9 x12 x13 1
def g_X4_readHouse (t : Nat) (s : ryS) : Option (ryS) :=
    if (s.1 t 1) < 8 then
      (g_X4_readHouse_18 t s 0)
    else
      g_X4_readHouse_18 t s 1
set_option maxHeartbeats 400000 in
set_option maxRecDepth 100000 in
theorem e_X4_readHouse_164 {Γ : rhG} {R : Nat → Nat → Nat} {t : Nat} (hO_9_t : Sh9 Γ R t) (hS : ShS Γ R) (hb_3_10 : R 3 10 = t) (hb_4_1 : R 4 1 = 2) : ∀ (s : ryS) (v1 : Int64) (v3 : Int32) (v4 : Int32) (v5 : Int32), f_X4_readHouse_164 Γ (ryM s R) 3 v1 v3 v4 v5 = Option.map (fun s => ryM s R) (g_X4_readHouse_164 t s v1 v3 v4 v5) := by
  have z9t := hO_9_t
  obtain ⟨q9t_0, q9t_1, q9t_2, q9t_3, q9t_4, q9t_5, q9t_6, q9t_7, q9t_8, q9t_9, q9t_10, q9t_11, q9t_12, q9t_13, q9t_14, q9t_15, q9t_16, hO_1_t⟩ := z9t
  obtain ⟨q1t_0, q1t_1, q1t_2, q1t_3, q1t_4, q1t_5, q1t_6, q1t_7, q1t_8, q1t_9, q1t_10, q1t_11, q1t_12⟩ := hO_1_t
  intros
  simp only [f_X4_readHouse_164, g_X4_readHouse_164, rhck, ryM_1, ryM_2, ryM_3, ry_si, ry_sl, if_true, ry_ck, Option.map_some, Option.map_none, ry_ite, ry_bm, ry_mb, Nat.add_assoc, Nat.reduceAdd, Option.some_bind, Option.bind_some, hb_3_10, ssk_10 hS, ssk_3 hS, ssk_8 hS, ssk_9 hS, ssl_10 hS, ssl_8 hS, ssl_9 hS, ssr_3_4 hS, ssr_3_5 hS, ssr_3_6 hS, q9t_0, q9t_1, q9t_2, q9t_3, q9t_4, q9t_5, q9t_6, q9t_7, q9t_8, q9t_9, q9t_10, q9t_11, q9t_12, q9t_13, q9t_14, q9t_15, q9t_16, q1t_0, q1t_1, q1t_2, q1t_3, q1t_4, q1t_5, q1t_6, q1t_7, q1t_8, q1t_9, q1t_10, q1t_11, q1t_12, e_X4_takeSign hS hb_4_1, e_X9_addHouse hO_9_t]
set_option maxHeartbeats 400000 in
set_option maxRecDepth 100000 in
theorem e_X4_readHouse_137 {Γ : rhG} {R : Nat → Nat → Nat} {t : Nat} (hO_9_t : Sh9 Γ R t) (hS : ShS Γ R) (hb_3_10 : R 3 10 = t) (hb_4_1 : R 4 1 = 2) : ∀ (s : ryS) (v1 : Int64) (v3 : Int32) (v4 : Int32) (v5 : Int32) (v6 : Int32) (w0 : Int32), f_X4_readHouse_137 Γ (ryM s R) 3 v1 v3 v4 v5 v6 w0 = Option.map (fun s => ryM s R) (g_X4_readHouse_137 t s v1 v3 v4 v5 v6 w0) := by
  have z9t := hO_9_t
  obtain ⟨q9t_0, q9t_1, q9t_2, q9t_3, q9t_4, q9t_5, q9t_6, q9t_7, q9t_8, q9t_9, q9t_10, q9t_11, q9t_12, q9t_13, q9t_14, q9t_15, q9t_16, hO_1_t⟩ := z9t
  obtain ⟨q1t_0, q1t_1, q1t_2, q1t_3, q1t_4, q1t_5, q1t_6, q1t_7, q1t_8, q1t_9, q1t_10, q1t_11, q1t_12⟩ := hO_1_t
  intros
  simp only [f_X4_readHouse_137, g_X4_readHouse_137, rhck, ryM_1, ryM_2, ryM_3, ry_si, ry_sl, if_true, ry_ck, Option.map_some, Option.map_none, ry_ite, ry_bm, ry_mb, Nat.add_assoc, Nat.reduceAdd, Option.some_bind, Option.bind_some, ssk_3 hS, ssk_4 hS, ssr_3_2 hS, q9t_0, q9t_1, q9t_2, q9t_3, q9t_4, q9t_5, q9t_6, q9t_7, q9t_8, q9t_9, q9t_10, q9t_11, q9t_12, q9t_13, q9t_14, q9t_15, q9t_16, q1t_0, q1t_1, q1t_2, q1t_3, q1t_4, q1t_5, q1t_6, q1t_7, q1t_8, q1t_9, q1t_10, q1t_11, q1t_12, e_X4_blame hS, e_X4_readHouse_164 hO_9_t hS hb_3_10 hb_4_1]
set_option maxHeartbeats 400000 in
set_option maxRecDepth 100000 in
theorem e_X4_readHouse_18 {Γ : rhG} {R : Nat → Nat → Nat} {t : Nat} (hO_9_t : Sh9 Γ R t) (hS : ShS Γ R) (hb_3_10 : R 3 10 = t) (hb_4_1 : R 4 1 = 2) : ∀ (s : ryS) (w1 : Int32), f_X4_readHouse_18 Γ (ryM s R) 3 3 w1 = Option.map (fun s => ryM s R) (g_X4_readHouse_18 t s w1) := by
  have z9t := hO_9_t
  obtain ⟨q9t_0, q9t_1, q9t_2, q9t_3, q9t_4, q9t_5, q9t_6, q9t_7, q9t_8, q9t_9, q9t_10, q9t_11, q9t_12, q9t_13, q9t_14, q9t_15, q9t_16, hO_1_t⟩ := z9t
  obtain ⟨q1t_0, q1t_1, q1t_2, q1t_3, q1t_4, q1t_5, q1t_6, q1t_7, q1t_8, q1t_9, q1t_10, q1t_11, q1t_12⟩ := hO_1_t
  intros
  simp only [f_X4_readHouse_18, g_X4_readHouse_18, rhck, ryM_1, ryM_2, ryM_3, ry_si, ry_sl, if_true, ry_ck, Option.map_some, Option.map_none, ry_ite, ry_bm, ry_mb, Nat.add_assoc, Nat.reduceAdd, Option.some_bind, Option.bind_some, hb_3_10, ssk_10 hS, ssk_3 hS, ssk_4 hS, ssk_7 hS, ssk_8 hS, ssl_10 hS, ssl_7 hS, ssl_8 hS, ssr_3_2 hS, ssr_3_3 hS, ssr_3_4 hS, ssr_3_6 hS, q9t_0, q9t_1, q9t_2, q9t_3, q9t_4, q9t_5, q9t_6, q9t_7, q9t_8, q9t_9, q9t_10, q9t_11, q9t_12, q9t_13, q9t_14, q9t_15, q9t_16, q1t_0, q1t_1, q1t_2, q1t_3, q1t_4, q1t_5, q1t_6, q1t_7, q1t_8, q1t_9, q1t_10, q1t_11, q1t_12, e_X4_advanceUnless hS hb_4_1, e_X4_takeNewName hS ⟨ssk_8 hS, ssl_8 hS⟩ hb_4_1, e_X4_takeWord hS hb_4_1, e_X4_takeNumber hS hb_4_1, e_X4_takeWord hS hb_4_1, e_X4_takeNumber hS hb_4_1, e_X4_takeWord hS hb_4_1, e_X4_takeToldName hS ⟨ssk_7 hS, ssl_7 hS⟩ hb_4_1, e_X9_roomBeside hO_9_t, e_X4_readHouse_137 hO_9_t hS hb_3_10 hb_4_1]
set_option maxHeartbeats 400000 in
set_option maxRecDepth 100000 in
theorem e_X4_readHouse {Γ : rhG} {R : Nat → Nat → Nat} {t : Nat} (hO_9_t : Sh9 Γ R t) (hS : ShS Γ R) (hb_3_10 : R 3 10 = t) (hb_4_1 : R 4 1 = 2) : ∀ (s : ryS), f_X4_readHouse Γ (ryM s R) 3 = Option.map (fun s => ryM s R) (g_X4_readHouse t s) := by
  have z9t := hO_9_t
  obtain ⟨q9t_0, q9t_1, q9t_2, q9t_3, q9t_4, q9t_5, q9t_6, q9t_7, q9t_8, q9t_9, q9t_10, q9t_11, q9t_12, q9t_13, q9t_14, q9t_15, q9t_16, hO_1_t⟩ := z9t
  obtain ⟨q1t_0, q1t_1, q1t_2, q1t_3, q1t_4, q1t_5, q1t_6, q1t_7, q1t_8, q1t_9, q1t_10, q1t_11, q1t_12⟩ := hO_1_t
  intros
  simp only [f_X4_readHouse, g_X4_readHouse, rhck, ryM_1, ryM_2, ryM_3, ry_si, ry_sl, if_true, ry_ck, Option.map_some, Option.map_none, ry_ite, ry_bm, ry_mb, Nat.add_assoc, Nat.reduceAdd, Option.some_bind, Option.bind_some, hb_3_10, ssk_3 hS, q9t_0, q9t_1, q9t_2, q9t_3, q9t_4, q9t_5, q9t_6, q9t_7, q9t_8, q9t_9, q9t_10, q9t_11, q9t_12, q9t_13, q9t_14, q9t_15, q9t_16, q1t_0, q1t_1, q1t_2, q1t_3, q1t_4, q1t_5, q1t_6, q1t_7, q1t_8, q1t_9, q1t_10, q1t_11, q1t_12, e_X4_readHouse_18 hO_9_t hS hb_3_10 hb_4_1]
def g_X4_readNeck (t : Nat) (s : ryS) : Option (ryS) :=
    (g_X4_advanceUnless s (s.1 3 7)).bind fun r1 =>
    let s2 := rysi r1 3 7 1
    (g_X4_takeNumber s2 (1 : Int32) (999 : Int32) (s2.1 4 5)).bind fun r3 =>
    let s4 := rysi r3.2 t 2 r3.1
    (g_X4_takeSign s4 (59 : Int32)).bind fun r5 =>
    some r5
set_option maxHeartbeats 400000 in
set_option maxRecDepth 100000 in
theorem e_X4_readNeck {Γ : rhG} {R : Nat → Nat → Nat} {t : Nat} (hO_9_t : Sh9 Γ R t) (hS : ShS Γ R) (hb_3_10 : R 3 10 = t) (hb_4_1 : R 4 1 = 2) : ∀ (s : ryS), f_X4_readNeck Γ (ryM s R) 3 = Option.map (fun s => ryM s R) (g_X4_readNeck t s) := by
  have z9t := hO_9_t
  obtain ⟨q9t_0, q9t_1, q9t_2, q9t_3, q9t_4, q9t_5, q9t_6, q9t_7, q9t_8, q9t_9, q9t_10, q9t_11, q9t_12, q9t_13, q9t_14, q9t_15, q9t_16, hO_1_t⟩ := z9t
  obtain ⟨q1t_0, q1t_1, q1t_2, q1t_3, q1t_4, q1t_5, q1t_6, q1t_7, q1t_8, q1t_9, q1t_10, q1t_11, q1t_12⟩ := hO_1_t
  intros
  simp only [f_X4_readNeck, g_X4_readNeck, rhck, ryM_1, ryM_2, ryM_3, ry_si, ry_sl, if_true, ry_ck, Option.map_some, Option.map_none, ry_ite, ry_bm, ry_mb, Nat.add_assoc, Nat.reduceAdd, Option.some_bind, Option.bind_some, hb_3_10, ssk_3 hS, ssk_4 hS, ssr_3_2 hS, q9t_0, q9t_1, q9t_2, q9t_3, q9t_4, q9t_5, q9t_6, q9t_7, q9t_8, q9t_9, q9t_10, q9t_11, q9t_12, q9t_13, q9t_14, q9t_15, q9t_16, q1t_0, q1t_1, q1t_2, q1t_3, q1t_4, q1t_5, q1t_6, q1t_7, q1t_8, q1t_9, q1t_10, q1t_11, q1t_12, e_X4_advanceUnless hS hb_4_1, e_X4_takeNumber hS hb_4_1, e_X4_takeSign hS hb_4_1]
def g_X9_addRail (s : ryS) (v0 : Nat) (v1 : Int32) : Option (ryS) :=
    if (s.1 v0 0) < 5 then
      (rhck (0 ≤ (s.1 v0 0).toInt ∧ (s.1 v0 0).toInt < (5 : Nat)) <|
      let s1 := rysi s ((v0 + 1)) (s.1 v0 0 : Int32).toNatClampNeg v1
      let s2 := rysi s1 v0 0 ((s1.1 v0 0) + 1)
      some s2)
    else
      some s
set_option maxHeartbeats 400000 in
set_option maxRecDepth 100000 in
theorem e_X9_addRail {Γ : rhG} {R : Nat → Nat → Nat} {v0 : Nat} (hO_9_v0 : Sh9 Γ R v0) : ∀ (s : ryS) (v1 : Int32), f_X9_addRail Γ (ryM s R) v0 v1 = Option.map (fun s => ryM s R) (g_X9_addRail s v0 v1) := by
  have z9v0 := hO_9_v0
  obtain ⟨q9v0_0, q9v0_1, q9v0_2, q9v0_3, q9v0_4, q9v0_5, q9v0_6, q9v0_7, q9v0_8, q9v0_9, q9v0_10, q9v0_11, q9v0_12, q9v0_13, q9v0_14, q9v0_15, q9v0_16, hO_1_v0⟩ := z9v0
  obtain ⟨q1v0_0, q1v0_1, q1v0_2, q1v0_3, q1v0_4, q1v0_5, q1v0_6, q1v0_7, q1v0_8, q1v0_9, q1v0_10, q1v0_11, q1v0_12⟩ := hO_1_v0
  intros
  simp only [f_X9_addRail, g_X9_addRail, rhck, ryM_1, ryM_2, ryM_3, ry_si, ry_sl, if_true, ry_ck, Option.map_some, Option.map_none, ry_ite, ry_bm, ry_mb, Nat.add_assoc, Nat.reduceAdd, Option.some_bind, Option.bind_some, q9v0_0, q9v0_1, q9v0_2, q9v0_3, q9v0_4, q9v0_5, q9v0_6, q9v0_7, q9v0_8, q9v0_9, q9v0_10, q9v0_11, q9v0_12, q9v0_13, q9v0_14, q9v0_15, q9v0_16, q1v0_0, q1v0_1, q1v0_2, q1v0_3, q1v0_4, q1v0_5, q1v0_6, q1v0_7, q1v0_8, q1v0_9, q1v0_10, q1v0_11, q1v0_12]
def g_X4_readRail_17 (t : Nat) (s : ryS) (w1 : Int32) : Option (ryS) :=
    (g_X4_advanceUnless s w1).bind fun r1 =>
    (g_X4_takeNewName (5 : Nat) r1 7 (r1.1 t 0)).bind fun r2 =>
    let x3 := r2.1
    (g_X4_takeWord r2.2 (6 : Int32)).bind fun r4 =>
    (g_X4_takeNumber r4 (1 : Int32) (99 : Int32) (r4.1 4 5)).bind fun r5 =>
    let x6 := r5.1
    (g_X4_takeSign r5.2 (59 : Int32)).bind fun r7 =>
    if (r7.1 3 0) = 0 then
      (rhck (0 ≤ (r7.1 t 0).toInt ∧ (r7.1 t 0).toInt < (5 : Nat)) <|
      let s8 := rysl r7 7 (r7.1 t 0 : Int32).toNatClampNeg x3
      (g_X9_addRail s8 t x6).bind fun r9 =>
      some r9)
    else
      some r7
def g_X4_readRail (t : Nat) (s : ryS) : Option (ryS) :=
    if (s.1 t 0) < 5 then
      (g_X4_readRail_17 t s 0)
    else
      g_X4_readRail_17 t s 1
set_option maxHeartbeats 400000 in
set_option maxRecDepth 100000 in
theorem e_X4_readRail_17 {Γ : rhG} {R : Nat → Nat → Nat} {t : Nat} (hO_9_t : Sh9 Γ R t) (hS : ShS Γ R) (hb_3_10 : R 3 10 = t) (hb_4_1 : R 4 1 = 2) : ∀ (s : ryS) (w1 : Int32), f_X4_readRail_17 Γ (ryM s R) 3 3 w1 = Option.map (fun s => ryM s R) (g_X4_readRail_17 t s w1) := by
  have z9t := hO_9_t
  obtain ⟨q9t_0, q9t_1, q9t_2, q9t_3, q9t_4, q9t_5, q9t_6, q9t_7, q9t_8, q9t_9, q9t_10, q9t_11, q9t_12, q9t_13, q9t_14, q9t_15, q9t_16, hO_1_t⟩ := z9t
  obtain ⟨q1t_0, q1t_1, q1t_2, q1t_3, q1t_4, q1t_5, q1t_6, q1t_7, q1t_8, q1t_9, q1t_10, q1t_11, q1t_12⟩ := hO_1_t
  intros
  simp only [f_X4_readRail_17, g_X4_readRail_17, rhck, ryM_1, ryM_2, ryM_3, ry_si, ry_sl, if_true, ry_ck, Option.map_some, Option.map_none, ry_ite, ry_bm, ry_mb, Nat.add_assoc, Nat.reduceAdd, Option.some_bind, Option.bind_some, hb_3_10, ssk_3 hS, ssk_4 hS, ssk_7 hS, ssl_7 hS, ssr_3_2 hS, ssr_3_3 hS, q9t_0, q9t_1, q9t_2, q9t_3, q9t_4, q9t_5, q9t_6, q9t_7, q9t_8, q9t_9, q9t_10, q9t_11, q9t_12, q9t_13, q9t_14, q9t_15, q9t_16, q1t_0, q1t_1, q1t_2, q1t_3, q1t_4, q1t_5, q1t_6, q1t_7, q1t_8, q1t_9, q1t_10, q1t_11, q1t_12, e_X4_advanceUnless hS hb_4_1, e_X4_takeNewName hS ⟨ssk_7 hS, ssl_7 hS⟩ hb_4_1, e_X4_takeWord hS hb_4_1, e_X4_takeNumber hS hb_4_1, e_X4_takeSign hS hb_4_1, e_X9_addRail hO_9_t]
set_option maxHeartbeats 400000 in
set_option maxRecDepth 100000 in
theorem e_X4_readRail {Γ : rhG} {R : Nat → Nat → Nat} {t : Nat} (hO_9_t : Sh9 Γ R t) (hS : ShS Γ R) (hb_3_10 : R 3 10 = t) (hb_4_1 : R 4 1 = 2) : ∀ (s : ryS), f_X4_readRail Γ (ryM s R) 3 = Option.map (fun s => ryM s R) (g_X4_readRail t s) := by
  have z9t := hO_9_t
  obtain ⟨q9t_0, q9t_1, q9t_2, q9t_3, q9t_4, q9t_5, q9t_6, q9t_7, q9t_8, q9t_9, q9t_10, q9t_11, q9t_12, q9t_13, q9t_14, q9t_15, q9t_16, hO_1_t⟩ := z9t
  obtain ⟨q1t_0, q1t_1, q1t_2, q1t_3, q1t_4, q1t_5, q1t_6, q1t_7, q1t_8, q1t_9, q1t_10, q1t_11, q1t_12⟩ := hO_1_t
  intros
  simp only [f_X4_readRail, g_X4_readRail, rhck, ryM_1, ryM_2, ryM_3, ry_si, ry_sl, if_true, ry_ck, Option.map_some, Option.map_none, ry_ite, ry_bm, ry_mb, Nat.add_assoc, Nat.reduceAdd, Option.some_bind, Option.bind_some, hb_3_10, ssk_3 hS, q9t_0, q9t_1, q9t_2, q9t_3, q9t_4, q9t_5, q9t_6, q9t_7, q9t_8, q9t_9, q9t_10, q9t_11, q9t_12, q9t_13, q9t_14, q9t_15, q9t_16, q1t_0, q1t_1, q1t_2, q1t_3, q1t_4, q1t_5, q1t_6, q1t_7, q1t_8, q1t_9, q1t_10, q1t_11, q1t_12, e_X4_readRail_17 hO_9_t hS hb_3_10 hb_4_1]
def g_X9_states_4 (s : ryS) : Nat → Nat → Int32 → Int32 → Option (Int32)
  | 0, _, _, _ => none
  | n + 1, v0, v1, v2 =>
    if v2 < (s.1 v0 1) then
      (let x1 := v1 * ((s.1 v0 0) + v2)
      let x2 : Int32 := v2 + 1
      g_X9_states_4 s n v0 x1 x2)
    else
      some v1
def g_X9_states (s : ryS) (v0 : Nat) : Option (Int32) :=
    g_X9_states_4 s rhFU v0 1 0
set_option maxHeartbeats 400000 in
set_option maxRecDepth 100000 in
theorem e_X9_states_4 {Γ : rhG} {R : Nat → Nat → Nat} {v0 : Nat} (hO_9_v0 : Sh9 Γ R v0) {s : ryS} : ∀ (n : Nat) (v1 : Int32) (v2 : Int32), f_X9_states_4 Γ (ryM s R) n v0 v1 v2 = g_X9_states_4 s n v0 v1 v2 := by
  have z9v0 := hO_9_v0
  obtain ⟨q9v0_0, q9v0_1, q9v0_2, q9v0_3, q9v0_4, q9v0_5, q9v0_6, q9v0_7, q9v0_8, q9v0_9, q9v0_10, q9v0_11, q9v0_12, q9v0_13, q9v0_14, q9v0_15, q9v0_16, hO_1_v0⟩ := z9v0
  obtain ⟨q1v0_0, q1v0_1, q1v0_2, q1v0_3, q1v0_4, q1v0_5, q1v0_6, q1v0_7, q1v0_8, q1v0_9, q1v0_10, q1v0_11, q1v0_12⟩ := hO_1_v0
  intro n
  induction n with
  | zero => intros; simp only [f_X9_states_4, g_X9_states_4, Option.map_none]
  | succ n ih =>
    intros
    simp only [f_X9_states_4, g_X9_states_4, rhck, ryM_1, ryM_2, ryM_3, ry_si, ry_sl, if_true, ry_ck, Option.map_some, Option.map_none, ry_ite, ry_bm, ry_mb, Nat.add_assoc, Nat.reduceAdd, Option.some_bind, Option.bind_some, q9v0_0, q9v0_1, q9v0_2, q9v0_3, q9v0_4, q9v0_5, q9v0_6, q9v0_7, q9v0_8, q9v0_9, q9v0_10, q9v0_11, q9v0_12, q9v0_13, q9v0_14, q9v0_15, q9v0_16, q1v0_0, q1v0_1, q1v0_2, q1v0_3, q1v0_4, q1v0_5, q1v0_6, q1v0_7, q1v0_8, q1v0_9, q1v0_10, q1v0_11, q1v0_12, ih]
set_option maxHeartbeats 400000 in
set_option maxRecDepth 100000 in
theorem e_X9_states {Γ : rhG} {R : Nat → Nat → Nat} {v0 : Nat} (hO_9_v0 : Sh9 Γ R v0) {s : ryS} : f_X9_states Γ (ryM s R) v0 = g_X9_states s v0 := by
  have z9v0 := hO_9_v0
  obtain ⟨q9v0_0, q9v0_1, q9v0_2, q9v0_3, q9v0_4, q9v0_5, q9v0_6, q9v0_7, q9v0_8, q9v0_9, q9v0_10, q9v0_11, q9v0_12, q9v0_13, q9v0_14, q9v0_15, q9v0_16, hO_1_v0⟩ := z9v0
  obtain ⟨q1v0_0, q1v0_1, q1v0_2, q1v0_3, q1v0_4, q1v0_5, q1v0_6, q1v0_7, q1v0_8, q1v0_9, q1v0_10, q1v0_11, q1v0_12⟩ := hO_1_v0
  intros
  simp only [f_X9_states, g_X9_states, rhck, ryM_1, ryM_2, ryM_3, ry_si, ry_sl, if_true, ry_ck, Option.map_some, Option.map_none, ry_ite, ry_bm, ry_mb, Nat.add_assoc, Nat.reduceAdd, Option.some_bind, Option.bind_some, q9v0_0, q9v0_1, q9v0_2, q9v0_3, q9v0_4, q9v0_5, q9v0_6, q9v0_7, q9v0_8, q9v0_9, q9v0_10, q9v0_11, q9v0_12, q9v0_13, q9v0_14, q9v0_15, q9v0_16, q1v0_0, q1v0_1, q1v0_2, q1v0_3, q1v0_4, q1v0_5, q1v0_6, q1v0_7, q1v0_8, q1v0_9, q1v0_10, q1v0_11, q1v0_12, e_X9_states_4 hO_9_v0]
def g_X10_behind (n : Nat) (s : ryS) (v0 : Nat) (v1 : Int32) : Option (Int32) :=
    rhck (0 ≤ (v1).toInt ∧ (v1).toInt < n) <|
    some (s.1 ((v0 + 3)) v1.toNatClampNeg)
set_option maxHeartbeats 400000 in
set_option maxRecDepth 100000 in
theorem e_X10_behind {Γ : rhG} {R : Nat → Nat → Nat} {n : Nat} {v0 : Nat} (hO_10_v0 : Sh10 Γ R v0 n) {s : ryS} : ∀ (v1 : Int32), f_X10_behind Γ (ryM s R) v0 v1 = g_X10_behind n s v0 v1 := by
  have z10v0 := hO_10_v0
  obtain ⟨q10v0_0, q10v0_1, q10v0_2, q10v0_3, q10v0_4, q10v0_5, q10v0_6, q10v0_7, q10v0_8, q10v0_9, q10v0_10, q10v0_11, q10v0_12⟩ := z10v0
  intros
  simp only [f_X10_behind, g_X10_behind, rhck, ryM_1, ryM_2, ryM_3, ry_si, ry_sl, if_true, ry_ck, Option.map_some, Option.map_none, ry_ite, ry_bm, ry_mb, Nat.add_assoc, Nat.reduceAdd, Option.some_bind, Option.bind_some, q10v0_0, q10v0_1, q10v0_2, q10v0_3, q10v0_4, q10v0_5, q10v0_6, q10v0_7, q10v0_8, q10v0_9, q10v0_10, q10v0_11, q10v0_12]
def g_X10_headOf (s : ryS) (v0 : Nat) (v1 : Int32) : Option (Int32) :=
    rhck (0 ≤ (v1 &&& 1023).toInt ∧ (v1 &&& 1023).toInt < (1024 : Nat)) <|
    some (s.1 ((v0 + 1)) (v1 &&& 1023).toNatClampNeg)
set_option maxHeartbeats 400000 in
set_option maxRecDepth 100000 in
theorem e_X10_headOf {Γ : rhG} {R : Nat → Nat → Nat} {v0 : Nat} (hO_10_v0 : Sh10 Γ R v0 n) {s : ryS} : ∀ (v1 : Int32), f_X10_headOf Γ (ryM s R) v0 v1 = g_X10_headOf s v0 v1 := by
  have z10v0 := hO_10_v0
  obtain ⟨q10v0_0, q10v0_1, q10v0_2, q10v0_3, q10v0_4, q10v0_5, q10v0_6, q10v0_7, q10v0_8, q10v0_9, q10v0_10, q10v0_11, q10v0_12⟩ := z10v0
  intros
  simp only [f_X10_headOf, g_X10_headOf, rhck, ryM_1, ryM_2, ryM_3, ry_si, ry_sl, if_true, ry_ck, Option.map_some, Option.map_none, ry_ite, ry_bm, ry_mb, Nat.add_assoc, Nat.reduceAdd, Option.some_bind, Option.bind_some, q10v0_0, q10v0_1, q10v0_2, q10v0_3, q10v0_4, q10v0_5, q10v0_6, q10v0_7, q10v0_8, q10v0_9, q10v0_10, q10v0_11, q10v0_12]
def g_X7_digitOf (s : ryS) (v0 : Int64) (v2 : Int32) : Option (Int32) :=
    some ((Int64.toInt32 (rhul v0 (4 * v2))) &&& 15)
set_option maxHeartbeats 400000 in
set_option maxRecDepth 100000 in
theorem e_X7_digitOf {Γ : rhG} {R : Nat → Nat → Nat} {s : ryS} : ∀ (v0 : Int64) (v2 : Int32), f_X7_digitOf Γ (ryM s R) v0 v2 = g_X7_digitOf s v0 v2 := by
  intros
  simp only [f_X7_digitOf, g_X7_digitOf, rhck, ryM_1, ryM_2, ryM_3, ry_si, ry_sl, if_true, ry_ck, Option.map_some, Option.map_none, ry_ite, ry_bm, ry_mb, Nat.add_assoc, Nat.reduceAdd, Option.some_bind, Option.bind_some]
def g_X5_isAlone_64 (t : Nat) (k80 : Nat → Int64 → Int32 → Int32 → Option (Int32)) (k83 : Nat → Int64 → Int32 → Int32 → Int32 → Option (Int32)) (s : ryS) (v0 : Nat) (v1 : Int64) (v3 : Int32) (v4 : Int32) (v5 : Int32) (v6 : Int32) (v7 : Int32) : Option (Int32) :=
    if v7 = (s.1 v0 10) then
      (if v6 = 8 then
        (k83 v0 v1 v3 v4 v5)
      else
        k80 v0 v1 v3 v5)
    else
      k83 v0 v1 v3 v4 v5
def g_X5_isAlone_80 (t : Nat) (k83 : Nat → Int64 → Int32 → Int32 → Int32 → Option (Int32)) (s : ryS) (v0 : Nat) (v1 : Int64) (v3 : Int32) (v5 : Int32) : Option (Int32) :=
    k83 v0 v1 v3 0 v5
def g_X5_isAlone_83 (t : Nat) (k24 : Nat → Int64 → Int32 → Int32 → Int32 → Option (Int32)) (s : ryS) (v0 : Nat) (v1 : Int64) (v3 : Int32) (v4 : Int32) (v5 : Int32) : Option (Int32) :=
    let x4 : Int32 := v5 + 1
    k24 v0 v1 v3 v4 x4
def g_X5_isAlone_24 (t : Nat) (s : ryS) : Nat → Nat → Int64 → Int32 → Int32 → Int32 → Option (Int32)
  | 0, _, _, _, _, _ => none
  | n + 1, v0, v1, v3, v4, v5 =>
    if v5 < v3 then
      ((g_X7_digitOf s v1 (v5 - 1)).bind fun r2 =>
      (g_X7_digitOf s v1 v5).bind fun r3 =>
      if r2 = (s.1 v0 10) then
        (if r3 = 8 then
          (g_X5_isAlone_64 t (g_X5_isAlone_80 t (g_X5_isAlone_83 t (g_X5_isAlone_24 t s n) s) s) (g_X5_isAlone_83 t (g_X5_isAlone_24 t s n) s) s v0 v1 v3 v4 v5 r2 r3)
        else
          g_X5_isAlone_80 t (g_X5_isAlone_83 t (g_X5_isAlone_24 t s n) s) s v0 v1 v3 v5)
      else
        g_X5_isAlone_64 t (g_X5_isAlone_80 t (g_X5_isAlone_83 t (g_X5_isAlone_24 t s n) s) s) (g_X5_isAlone_83 t (g_X5_isAlone_24 t s n) s) s v0 v1 v3 v4 v5 r2 r3)
    else
      rhck (v4 = 0 ∨ v4 = 1) <|
      some v4
def g_X5_isAlone (t : Nat) (s : ryS) (v0 : Nat) (v1 : Int64) : Option (Int32) :=
    let x1 := ((s.1 t 1) + (s.1 t 0)) - 1
    g_X5_isAlone_24 t s rhFU v0 v1 x1 1 1
set_option maxHeartbeats 400000 in
set_option maxRecDepth 100000 in
theorem e_X5_isAlone_64 {Γ : rhG} {R : Nat → Nat → Nat} {t : Nat} {v0 : Nat} (hO_5_v0 : Sh5 Γ R v0 t n tb kn) (hO_9_t : Sh9 Γ R t) {f80 : Nat → Int64 → Int32 → Int32 → Option (Int32)} {k80 : Nat → Int64 → Int32 → Int32 → Option (Int32)} {f83 : Nat → Int64 → Int32 → Int32 → Int32 → Option (Int32)} {k83 : Nat → Int64 → Int32 → Int32 → Int32 → Option (Int32)} (hk80 : ∀ (v0 : Nat) (v1 : Int64) (v3 : Int32) (v5 : Int32), f80 v0 v1 v3 v5 = k80 v0 v1 v3 v5) (hk83 : ∀ (v0 : Nat) (v1 : Int64) (v3 : Int32) (v4 : Int32) (v5 : Int32), f83 v0 v1 v3 v4 v5 = k83 v0 v1 v3 v4 v5) {s : ryS} : ∀ (v1 : Int64) (v3 : Int32) (v4 : Int32) (v5 : Int32) (v6 : Int32) (v7 : Int32), f_X5_isAlone_64 f80 f83 Γ (ryM s R) v0 v1 v3 v4 v5 v6 v7 = g_X5_isAlone_64 t k80 k83 s v0 v1 v3 v4 v5 v6 v7 := by
  have z5v0 := hO_5_v0
  obtain ⟨q5v0_0, q5v0_1, q5v0_2, q5v0_3, q5v0_4, q5v0_5, hO5_7, hO5_0, hO5_10, hO5_2⟩ := z5v0
  obtain ⟨q57_0, q57_1, q57_2, q57_3, q57_4, q57_5, q57_6, q57_7, q57_8, q57_9, q57_10, q57_11, q57_12, q57_13, q57_14, q57_15, q57_16, q57_17, q57_18⟩ := hO5_7
  obtain ⟨q50_0, q50_1, q50_2, q50_3, q50_4, q50_5, q50_6, q50_7, q50_8, q50_9, q50_10, q50_11, q50_12, q50_13, q50_14, q50_15⟩ := hO5_0
  obtain ⟨q510_0, q510_1, q510_2, q510_3, q510_4, q510_5, q510_6, q510_7, q510_8, q510_9, q510_10, q510_11, q510_12⟩ := hO5_10
  obtain ⟨q52_0, q52_1, q52_2, q52_3, q52_4⟩ := hO5_2
  have z9t := hO_9_t
  obtain ⟨q9t_0, q9t_1, q9t_2, q9t_3, q9t_4, q9t_5, q9t_6, q9t_7, q9t_8, q9t_9, q9t_10, q9t_11, q9t_12, q9t_13, q9t_14, q9t_15, q9t_16, hO_1_t⟩ := z9t
  obtain ⟨q1t_0, q1t_1, q1t_2, q1t_3, q1t_4, q1t_5, q1t_6, q1t_7, q1t_8, q1t_9, q1t_10, q1t_11, q1t_12⟩ := hO_1_t
  intros
  simp only [f_X5_isAlone_64, g_X5_isAlone_64, rhck, ryM_1, ryM_2, ryM_3, ry_si, ry_sl, if_true, ry_ck, Option.map_some, Option.map_none, ry_ite, ry_bm, ry_mb, Nat.add_assoc, Nat.reduceAdd, Option.some_bind, Option.bind_some, q5v0_0, q5v0_1, q5v0_2, q5v0_3, q5v0_4, q5v0_5, q57_0, q57_1, q57_2, q57_3, q57_4, q57_5, q57_6, q57_7, q57_8, q57_9, q57_10, q57_11, q57_12, q57_13, q57_14, q57_15, q57_16, q57_17, q57_18, q50_0, q50_1, q50_2, q50_3, q50_4, q50_5, q50_6, q50_7, q50_8, q50_9, q50_10, q50_11, q50_12, q50_13, q50_14, q50_15, q510_0, q510_1, q510_2, q510_3, q510_4, q510_5, q510_6, q510_7, q510_8, q510_9, q510_10, q510_11, q510_12, q52_0, q52_1, q52_2, q52_3, q52_4, q9t_0, q9t_1, q9t_2, q9t_3, q9t_4, q9t_5, q9t_6, q9t_7, q9t_8, q9t_9, q9t_10, q9t_11, q9t_12, q9t_13, q9t_14, q9t_15, q9t_16, q1t_0, q1t_1, q1t_2, q1t_3, q1t_4, q1t_5, q1t_6, q1t_7, q1t_8, q1t_9, q1t_10, q1t_11, q1t_12, hk80, hk83]
set_option maxHeartbeats 400000 in
set_option maxRecDepth 100000 in
theorem e_X5_isAlone_80 {Γ : rhG} {R : Nat → Nat → Nat} {t : Nat} {v0 : Nat} (hO_5_v0 : Sh5 Γ R v0 t n tb kn) (hO_9_t : Sh9 Γ R t) {f83 : Nat → Int64 → Int32 → Int32 → Int32 → Option (Int32)} {k83 : Nat → Int64 → Int32 → Int32 → Int32 → Option (Int32)} (hk83 : ∀ (v0 : Nat) (v1 : Int64) (v3 : Int32) (v4 : Int32) (v5 : Int32), f83 v0 v1 v3 v4 v5 = k83 v0 v1 v3 v4 v5) {s : ryS} : ∀ (v1 : Int64) (v3 : Int32) (v5 : Int32), f_X5_isAlone_80 f83 Γ (ryM s R) v0 v1 v3 v5 = g_X5_isAlone_80 t k83 s v0 v1 v3 v5 := by
  have z5v0 := hO_5_v0
  obtain ⟨q5v0_0, q5v0_1, q5v0_2, q5v0_3, q5v0_4, q5v0_5, hO5_7, hO5_0, hO5_10, hO5_2⟩ := z5v0
  obtain ⟨q57_0, q57_1, q57_2, q57_3, q57_4, q57_5, q57_6, q57_7, q57_8, q57_9, q57_10, q57_11, q57_12, q57_13, q57_14, q57_15, q57_16, q57_17, q57_18⟩ := hO5_7
  obtain ⟨q50_0, q50_1, q50_2, q50_3, q50_4, q50_5, q50_6, q50_7, q50_8, q50_9, q50_10, q50_11, q50_12, q50_13, q50_14, q50_15⟩ := hO5_0
  obtain ⟨q510_0, q510_1, q510_2, q510_3, q510_4, q510_5, q510_6, q510_7, q510_8, q510_9, q510_10, q510_11, q510_12⟩ := hO5_10
  obtain ⟨q52_0, q52_1, q52_2, q52_3, q52_4⟩ := hO5_2
  have z9t := hO_9_t
  obtain ⟨q9t_0, q9t_1, q9t_2, q9t_3, q9t_4, q9t_5, q9t_6, q9t_7, q9t_8, q9t_9, q9t_10, q9t_11, q9t_12, q9t_13, q9t_14, q9t_15, q9t_16, hO_1_t⟩ := z9t
  obtain ⟨q1t_0, q1t_1, q1t_2, q1t_3, q1t_4, q1t_5, q1t_6, q1t_7, q1t_8, q1t_9, q1t_10, q1t_11, q1t_12⟩ := hO_1_t
  intros
  simp only [f_X5_isAlone_80, g_X5_isAlone_80, rhck, ryM_1, ryM_2, ryM_3, ry_si, ry_sl, if_true, ry_ck, Option.map_some, Option.map_none, ry_ite, ry_bm, ry_mb, Nat.add_assoc, Nat.reduceAdd, Option.some_bind, Option.bind_some, q5v0_0, q5v0_1, q5v0_2, q5v0_3, q5v0_4, q5v0_5, q57_0, q57_1, q57_2, q57_3, q57_4, q57_5, q57_6, q57_7, q57_8, q57_9, q57_10, q57_11, q57_12, q57_13, q57_14, q57_15, q57_16, q57_17, q57_18, q50_0, q50_1, q50_2, q50_3, q50_4, q50_5, q50_6, q50_7, q50_8, q50_9, q50_10, q50_11, q50_12, q50_13, q50_14, q50_15, q510_0, q510_1, q510_2, q510_3, q510_4, q510_5, q510_6, q510_7, q510_8, q510_9, q510_10, q510_11, q510_12, q52_0, q52_1, q52_2, q52_3, q52_4, q9t_0, q9t_1, q9t_2, q9t_3, q9t_4, q9t_5, q9t_6, q9t_7, q9t_8, q9t_9, q9t_10, q9t_11, q9t_12, q9t_13, q9t_14, q9t_15, q9t_16, q1t_0, q1t_1, q1t_2, q1t_3, q1t_4, q1t_5, q1t_6, q1t_7, q1t_8, q1t_9, q1t_10, q1t_11, q1t_12, hk83]
set_option maxHeartbeats 400000 in
set_option maxRecDepth 100000 in
theorem e_X5_isAlone_83 {Γ : rhG} {R : Nat → Nat → Nat} {t : Nat} {v0 : Nat} (hO_5_v0 : Sh5 Γ R v0 t n tb kn) (hO_9_t : Sh9 Γ R t) {f24 : Nat → Int64 → Int32 → Int32 → Int32 → Option (Int32)} {k24 : Nat → Int64 → Int32 → Int32 → Int32 → Option (Int32)} (hk24 : ∀ (v0 : Nat) (v1 : Int64) (v3 : Int32) (v4 : Int32) (v5 : Int32), f24 v0 v1 v3 v4 v5 = k24 v0 v1 v3 v4 v5) {s : ryS} : ∀ (v1 : Int64) (v3 : Int32) (v4 : Int32) (v5 : Int32), f_X5_isAlone_83 f24 Γ (ryM s R) v0 v1 v3 v4 v5 = g_X5_isAlone_83 t k24 s v0 v1 v3 v4 v5 := by
  have z5v0 := hO_5_v0
  obtain ⟨q5v0_0, q5v0_1, q5v0_2, q5v0_3, q5v0_4, q5v0_5, hO5_7, hO5_0, hO5_10, hO5_2⟩ := z5v0
  obtain ⟨q57_0, q57_1, q57_2, q57_3, q57_4, q57_5, q57_6, q57_7, q57_8, q57_9, q57_10, q57_11, q57_12, q57_13, q57_14, q57_15, q57_16, q57_17, q57_18⟩ := hO5_7
  obtain ⟨q50_0, q50_1, q50_2, q50_3, q50_4, q50_5, q50_6, q50_7, q50_8, q50_9, q50_10, q50_11, q50_12, q50_13, q50_14, q50_15⟩ := hO5_0
  obtain ⟨q510_0, q510_1, q510_2, q510_3, q510_4, q510_5, q510_6, q510_7, q510_8, q510_9, q510_10, q510_11, q510_12⟩ := hO5_10
  obtain ⟨q52_0, q52_1, q52_2, q52_3, q52_4⟩ := hO5_2
  have z9t := hO_9_t
  obtain ⟨q9t_0, q9t_1, q9t_2, q9t_3, q9t_4, q9t_5, q9t_6, q9t_7, q9t_8, q9t_9, q9t_10, q9t_11, q9t_12, q9t_13, q9t_14, q9t_15, q9t_16, hO_1_t⟩ := z9t
  obtain ⟨q1t_0, q1t_1, q1t_2, q1t_3, q1t_4, q1t_5, q1t_6, q1t_7, q1t_8, q1t_9, q1t_10, q1t_11, q1t_12⟩ := hO_1_t
  intros
  simp only [f_X5_isAlone_83, g_X5_isAlone_83, rhck, ryM_1, ryM_2, ryM_3, ry_si, ry_sl, if_true, ry_ck, Option.map_some, Option.map_none, ry_ite, ry_bm, ry_mb, Nat.add_assoc, Nat.reduceAdd, Option.some_bind, Option.bind_some, q5v0_0, q5v0_1, q5v0_2, q5v0_3, q5v0_4, q5v0_5, q57_0, q57_1, q57_2, q57_3, q57_4, q57_5, q57_6, q57_7, q57_8, q57_9, q57_10, q57_11, q57_12, q57_13, q57_14, q57_15, q57_16, q57_17, q57_18, q50_0, q50_1, q50_2, q50_3, q50_4, q50_5, q50_6, q50_7, q50_8, q50_9, q50_10, q50_11, q50_12, q50_13, q50_14, q50_15, q510_0, q510_1, q510_2, q510_3, q510_4, q510_5, q510_6, q510_7, q510_8, q510_9, q510_10, q510_11, q510_12, q52_0, q52_1, q52_2, q52_3, q52_4, q9t_0, q9t_1, q9t_2, q9t_3, q9t_4, q9t_5, q9t_6, q9t_7, q9t_8, q9t_9, q9t_10, q9t_11, q9t_12, q9t_13, q9t_14, q9t_15, q9t_16, q1t_0, q1t_1, q1t_2, q1t_3, q1t_4, q1t_5, q1t_6, q1t_7, q1t_8, q1t_9, q1t_10, q1t_11, q1t_12, hk24]
set_option maxHeartbeats 400000 in
set_option maxRecDepth 100000 in
theorem e_X5_isAlone_24 {Γ : rhG} {R : Nat → Nat → Nat} {t : Nat} {v0 : Nat} (hO_5_v0 : Sh5 Γ R v0 t n tb kn) (hO_9_t : Sh9 Γ R t) {s : ryS} : ∀ (n : Nat) (v1 : Int64) (v3 : Int32) (v4 : Int32) (v5 : Int32), f_X5_isAlone_24 Γ (ryM s R) n v0 v1 v3 v4 v5 = g_X5_isAlone_24 t s n v0 v1 v3 v4 v5 := by
  have z5v0 := hO_5_v0
  obtain ⟨q5v0_0, q5v0_1, q5v0_2, q5v0_3, q5v0_4, q5v0_5, hO5_7, hO5_0, hO5_10, hO5_2⟩ := z5v0
  obtain ⟨q57_0, q57_1, q57_2, q57_3, q57_4, q57_5, q57_6, q57_7, q57_8, q57_9, q57_10, q57_11, q57_12, q57_13, q57_14, q57_15, q57_16, q57_17, q57_18⟩ := hO5_7
  obtain ⟨q50_0, q50_1, q50_2, q50_3, q50_4, q50_5, q50_6, q50_7, q50_8, q50_9, q50_10, q50_11, q50_12, q50_13, q50_14, q50_15⟩ := hO5_0
  obtain ⟨q510_0, q510_1, q510_2, q510_3, q510_4, q510_5, q510_6, q510_7, q510_8, q510_9, q510_10, q510_11, q510_12⟩ := hO5_10
  obtain ⟨q52_0, q52_1, q52_2, q52_3, q52_4⟩ := hO5_2
  have z9t := hO_9_t
  obtain ⟨q9t_0, q9t_1, q9t_2, q9t_3, q9t_4, q9t_5, q9t_6, q9t_7, q9t_8, q9t_9, q9t_10, q9t_11, q9t_12, q9t_13, q9t_14, q9t_15, q9t_16, hO_1_t⟩ := z9t
  obtain ⟨q1t_0, q1t_1, q1t_2, q1t_3, q1t_4, q1t_5, q1t_6, q1t_7, q1t_8, q1t_9, q1t_10, q1t_11, q1t_12⟩ := hO_1_t
  intro n
  induction n with
  | zero => intros; simp only [f_X5_isAlone_24, g_X5_isAlone_24, Option.map_none]
  | succ n ih =>
    intros
    simp only [f_X5_isAlone_24, g_X5_isAlone_24, rhck, ryM_1, ryM_2, ryM_3, ry_si, ry_sl, if_true, ry_ck, Option.map_some, Option.map_none, ry_ite, ry_bm, ry_mb, Nat.add_assoc, Nat.reduceAdd, Option.some_bind, Option.bind_some, q5v0_0, q5v0_1, q5v0_2, q5v0_3, q5v0_4, q5v0_5, q57_0, q57_1, q57_2, q57_3, q57_4, q57_5, q57_6, q57_7, q57_8, q57_9, q57_10, q57_11, q57_12, q57_13, q57_14, q57_15, q57_16, q57_17, q57_18, q50_0, q50_1, q50_2, q50_3, q50_4, q50_5, q50_6, q50_7, q50_8, q50_9, q50_10, q50_11, q50_12, q50_13, q50_14, q50_15, q510_0, q510_1, q510_2, q510_3, q510_4, q510_5, q510_6, q510_7, q510_8, q510_9, q510_10, q510_11, q510_12, q52_0, q52_1, q52_2, q52_3, q52_4, q9t_0, q9t_1, q9t_2, q9t_3, q9t_4, q9t_5, q9t_6, q9t_7, q9t_8, q9t_9, q9t_10, q9t_11, q9t_12, q9t_13, q9t_14, q9t_15, q9t_16, q1t_0, q1t_1, q1t_2, q1t_3, q1t_4, q1t_5, q1t_6, q1t_7, q1t_8, q1t_9, q1t_10, q1t_11, q1t_12, e_X7_digitOf, e_X7_digitOf, e_X5_isAlone_64 hO_5_v0 hO_9_t (e_X5_isAlone_80 hO_5_v0 hO_9_t (e_X5_isAlone_83 hO_5_v0 hO_9_t ih)) (e_X5_isAlone_83 hO_5_v0 hO_9_t ih), e_X5_isAlone_80 hO_5_v0 hO_9_t (e_X5_isAlone_83 hO_5_v0 hO_9_t ih), e_X5_isAlone_83 hO_5_v0 hO_9_t ih, ih]
set_option maxHeartbeats 400000 in
set_option maxRecDepth 100000 in
theorem e_X5_isAlone {Γ : rhG} {R : Nat → Nat → Nat} {t : Nat} {v0 : Nat} (hO_5_v0 : Sh5 Γ R v0 t n tb kn) (hO_9_t : Sh9 Γ R t) {s : ryS} : ∀ (v1 : Int64), f_X5_isAlone Γ (ryM s R) v0 v1 = g_X5_isAlone t s v0 v1 := by
  have z5v0 := hO_5_v0
  obtain ⟨q5v0_0, q5v0_1, q5v0_2, q5v0_3, q5v0_4, q5v0_5, hO5_7, hO5_0, hO5_10, hO5_2⟩ := z5v0
  obtain ⟨q57_0, q57_1, q57_2, q57_3, q57_4, q57_5, q57_6, q57_7, q57_8, q57_9, q57_10, q57_11, q57_12, q57_13, q57_14, q57_15, q57_16, q57_17, q57_18⟩ := hO5_7
  obtain ⟨q50_0, q50_1, q50_2, q50_3, q50_4, q50_5, q50_6, q50_7, q50_8, q50_9, q50_10, q50_11, q50_12, q50_13, q50_14, q50_15⟩ := hO5_0
  obtain ⟨q510_0, q510_1, q510_2, q510_3, q510_4, q510_5, q510_6, q510_7, q510_8, q510_9, q510_10, q510_11, q510_12⟩ := hO5_10
  obtain ⟨q52_0, q52_1, q52_2, q52_3, q52_4⟩ := hO5_2
  have z9t := hO_9_t
  obtain ⟨q9t_0, q9t_1, q9t_2, q9t_3, q9t_4, q9t_5, q9t_6, q9t_7, q9t_8, q9t_9, q9t_10, q9t_11, q9t_12, q9t_13, q9t_14, q9t_15, q9t_16, hO_1_t⟩ := z9t
  obtain ⟨q1t_0, q1t_1, q1t_2, q1t_3, q1t_4, q1t_5, q1t_6, q1t_7, q1t_8, q1t_9, q1t_10, q1t_11, q1t_12⟩ := hO_1_t
  intros
  simp only [f_X5_isAlone, g_X5_isAlone, rhck, ryM_1, ryM_2, ryM_3, ry_si, ry_sl, if_true, ry_ck, Option.map_some, Option.map_none, ry_ite, ry_bm, ry_mb, Nat.add_assoc, Nat.reduceAdd, Option.some_bind, Option.bind_some, q5v0_0, q5v0_1, q5v0_2, q5v0_3, q5v0_4, q5v0_5, q57_0, q57_1, q57_2, q57_3, q57_4, q57_5, q57_6, q57_7, q57_8, q57_9, q57_10, q57_11, q57_12, q57_13, q57_14, q57_15, q57_16, q57_17, q57_18, q50_0, q50_1, q50_2, q50_3, q50_4, q50_5, q50_6, q50_7, q50_8, q50_9, q50_10, q50_11, q50_12, q50_13, q50_14, q50_15, q510_0, q510_1, q510_2, q510_3, q510_4, q510_5, q510_6, q510_7, q510_8, q510_9, q510_10, q510_11, q510_12, q52_0, q52_1, q52_2, q52_3, q52_4, q9t_0, q9t_1, q9t_2, q9t_3, q9t_4, q9t_5, q9t_6, q9t_7, q9t_8, q9t_9, q9t_10, q9t_11, q9t_12, q9t_13, q9t_14, q9t_15, q9t_16, q1t_0, q1t_1, q1t_2, q1t_3, q1t_4, q1t_5, q1t_6, q1t_7, q1t_8, q1t_9, q1t_10, q1t_11, q1t_12, e_X5_isAlone_24 hO_5_v0 hO_9_t]
def g_X5_keepBest_16 (s : ryS) (v0 : Nat) (v1 : Int32) (v2 : Int32) : Option (ryS) :=
    let s1 := rysi s v0 11 v1
    let s2 := rysi s1 v0 1 v2
    some s2
def g_X5_keepBest (s : ryS) (v0 : Nat) (v1 : Int32) (v2 : Int32) : Option (ryS) :=
    if (s.1 v0 11) = ((-1)) then
      (g_X5_keepBest_16 s v0 v1 v2)
    else
      if (s.1 v0 1) < v2 then
        (g_X5_keepBest_16 s v0 v1 v2)
      else
        some s
set_option maxHeartbeats 400000 in
set_option maxRecDepth 100000 in
theorem e_X5_keepBest_16 {Γ : rhG} {R : Nat → Nat → Nat} {v0 : Nat} (hO_5_v0 : Sh5 Γ R v0 t n tb kn) : ∀ (s : ryS) (v1 : Int32) (v2 : Int32), f_X5_keepBest_16 Γ (ryM s R) v0 v1 v2 = Option.map (fun s => ryM s R) (g_X5_keepBest_16 s v0 v1 v2) := by
  have z5v0 := hO_5_v0
  obtain ⟨q5v0_0, q5v0_1, q5v0_2, q5v0_3, q5v0_4, q5v0_5, hO5_7, hO5_0, hO5_10, hO5_2⟩ := z5v0
  obtain ⟨q57_0, q57_1, q57_2, q57_3, q57_4, q57_5, q57_6, q57_7, q57_8, q57_9, q57_10, q57_11, q57_12, q57_13, q57_14, q57_15, q57_16, q57_17, q57_18⟩ := hO5_7
  obtain ⟨q50_0, q50_1, q50_2, q50_3, q50_4, q50_5, q50_6, q50_7, q50_8, q50_9, q50_10, q50_11, q50_12, q50_13, q50_14, q50_15⟩ := hO5_0
  obtain ⟨q510_0, q510_1, q510_2, q510_3, q510_4, q510_5, q510_6, q510_7, q510_8, q510_9, q510_10, q510_11, q510_12⟩ := hO5_10
  obtain ⟨q52_0, q52_1, q52_2, q52_3, q52_4⟩ := hO5_2
  intros
  simp only [f_X5_keepBest_16, g_X5_keepBest_16, rhck, ryM_1, ryM_2, ryM_3, ry_si, ry_sl, if_true, ry_ck, Option.map_some, Option.map_none, ry_ite, ry_bm, ry_mb, Nat.add_assoc, Nat.reduceAdd, Option.some_bind, Option.bind_some, q5v0_0, q5v0_1, q5v0_2, q5v0_3, q5v0_4, q5v0_5, q57_0, q57_1, q57_2, q57_3, q57_4, q57_5, q57_6, q57_7, q57_8, q57_9, q57_10, q57_11, q57_12, q57_13, q57_14, q57_15, q57_16, q57_17, q57_18, q50_0, q50_1, q50_2, q50_3, q50_4, q50_5, q50_6, q50_7, q50_8, q50_9, q50_10, q50_11, q50_12, q50_13, q50_14, q50_15, q510_0, q510_1, q510_2, q510_3, q510_4, q510_5, q510_6, q510_7, q510_8, q510_9, q510_10, q510_11, q510_12, q52_0, q52_1, q52_2, q52_3, q52_4]
set_option maxHeartbeats 400000 in
set_option maxRecDepth 100000 in
theorem e_X5_keepBest {Γ : rhG} {R : Nat → Nat → Nat} {v0 : Nat} (hO_5_v0 : Sh5 Γ R v0 t n tb kn) : ∀ (s : ryS) (v1 : Int32) (v2 : Int32), f_X5_keepBest Γ (ryM s R) v0 v1 v2 = Option.map (fun s => ryM s R) (g_X5_keepBest s v0 v1 v2) := by
  have z5v0 := hO_5_v0
  obtain ⟨q5v0_0, q5v0_1, q5v0_2, q5v0_3, q5v0_4, q5v0_5, hO5_7, hO5_0, hO5_10, hO5_2⟩ := z5v0
  obtain ⟨q57_0, q57_1, q57_2, q57_3, q57_4, q57_5, q57_6, q57_7, q57_8, q57_9, q57_10, q57_11, q57_12, q57_13, q57_14, q57_15, q57_16, q57_17, q57_18⟩ := hO5_7
  obtain ⟨q50_0, q50_1, q50_2, q50_3, q50_4, q50_5, q50_6, q50_7, q50_8, q50_9, q50_10, q50_11, q50_12, q50_13, q50_14, q50_15⟩ := hO5_0
  obtain ⟨q510_0, q510_1, q510_2, q510_3, q510_4, q510_5, q510_6, q510_7, q510_8, q510_9, q510_10, q510_11, q510_12⟩ := hO5_10
  obtain ⟨q52_0, q52_1, q52_2, q52_3, q52_4⟩ := hO5_2
  intros
  simp only [f_X5_keepBest, g_X5_keepBest, rhck, ryM_1, ryM_2, ryM_3, ry_si, ry_sl, if_true, ry_ck, Option.map_some, Option.map_none, ry_ite, ry_bm, ry_mb, Nat.add_assoc, Nat.reduceAdd, Option.some_bind, Option.bind_some, q5v0_0, q5v0_1, q5v0_2, q5v0_3, q5v0_4, q5v0_5, q57_0, q57_1, q57_2, q57_3, q57_4, q57_5, q57_6, q57_7, q57_8, q57_9, q57_10, q57_11, q57_12, q57_13, q57_14, q57_15, q57_16, q57_17, q57_18, q50_0, q50_1, q50_2, q50_3, q50_4, q50_5, q50_6, q50_7, q50_8, q50_9, q50_10, q50_11, q50_12, q50_13, q50_14, q50_15, q510_0, q510_1, q510_2, q510_3, q510_4, q510_5, q510_6, q510_7, q510_8, q510_9, q510_10, q510_11, q510_12, q52_0, q52_1, q52_2, q52_3, q52_4, e_X5_keepBest_16 hO_5_v0]
def g_X9_worthOf_57 (k8 : Nat → Int64 → Int32 → Int32 → Int32 → Option (Int32)) (s : ryS) (v0 : Nat) (v1 : Int64) (v3 : Int32) (v5 : Int32) (v6 : Int32) : Option (Int32) :=
    let x2 : Int32 := v5 + 1
    k8 v0 v1 v3 v6 x2
def g_X9_worthOf_8 (s : ryS) : Nat → Nat → Int64 → Int32 → Int32 → Int32 → Option (Int32)
  | 0, _, _, _, _, _ => none
  | n + 1, v0, v1, v3, v4, v5 =>
    if v5 < (s.1 v0 1) then
      ((g_X7_digitOf s v1 v5).bind fun r1 =>
      if r1 < 8 then
        (if v4 = ((-1)) then
          (g_X9_worthOf_57 (g_X9_worthOf_8 s n) s v0 v1 v3 v5 r1)
        else
          rhck (0 ≤ ((v4 * 8) + r1).toInt ∧ ((v4 * 8) + r1).toInt < (64 : Nat)) <|
          let x3 := v3 + (s.1 ((v0 + 4)) ((v4 * 8) + r1).toNatClampNeg)
          g_X9_worthOf_57 (g_X9_worthOf_8 s n) s v0 v1 x3 v5 r1)
      else
        some v3)
    else
      some v3
def g_X9_worthOf (s : ryS) (v0 : Nat) (v1 : Int64) : Option (Int32) :=
    g_X9_worthOf_8 s rhFU v0 v1 0 ((-1)) 0
set_option maxHeartbeats 400000 in
set_option maxRecDepth 100000 in
theorem e_X9_worthOf_57 {Γ : rhG} {R : Nat → Nat → Nat} {v0 : Nat} (hO_9_v0 : Sh9 Γ R v0) {f8 : Nat → Int64 → Int32 → Int32 → Int32 → Option (Int32)} {k8 : Nat → Int64 → Int32 → Int32 → Int32 → Option (Int32)} (hk8 : ∀ (v0 : Nat) (v1 : Int64) (v3 : Int32) (v4 : Int32) (v5 : Int32), f8 v0 v1 v3 v4 v5 = k8 v0 v1 v3 v4 v5) {s : ryS} : ∀ (v1 : Int64) (v3 : Int32) (v5 : Int32) (v6 : Int32), f_X9_worthOf_57 f8 Γ (ryM s R) v0 v1 v3 v5 v6 = g_X9_worthOf_57 k8 s v0 v1 v3 v5 v6 := by
  have z9v0 := hO_9_v0
  obtain ⟨q9v0_0, q9v0_1, q9v0_2, q9v0_3, q9v0_4, q9v0_5, q9v0_6, q9v0_7, q9v0_8, q9v0_9, q9v0_10, q9v0_11, q9v0_12, q9v0_13, q9v0_14, q9v0_15, q9v0_16, hO_1_v0⟩ := z9v0
  obtain ⟨q1v0_0, q1v0_1, q1v0_2, q1v0_3, q1v0_4, q1v0_5, q1v0_6, q1v0_7, q1v0_8, q1v0_9, q1v0_10, q1v0_11, q1v0_12⟩ := hO_1_v0
  intros
  simp only [f_X9_worthOf_57, g_X9_worthOf_57, rhck, ryM_1, ryM_2, ryM_3, ry_si, ry_sl, if_true, ry_ck, Option.map_some, Option.map_none, ry_ite, ry_bm, ry_mb, Nat.add_assoc, Nat.reduceAdd, Option.some_bind, Option.bind_some, q9v0_0, q9v0_1, q9v0_2, q9v0_3, q9v0_4, q9v0_5, q9v0_6, q9v0_7, q9v0_8, q9v0_9, q9v0_10, q9v0_11, q9v0_12, q9v0_13, q9v0_14, q9v0_15, q9v0_16, q1v0_0, q1v0_1, q1v0_2, q1v0_3, q1v0_4, q1v0_5, q1v0_6, q1v0_7, q1v0_8, q1v0_9, q1v0_10, q1v0_11, q1v0_12, hk8]
set_option maxHeartbeats 400000 in
set_option maxRecDepth 100000 in
theorem e_X9_worthOf_8 {Γ : rhG} {R : Nat → Nat → Nat} {v0 : Nat} (hO_9_v0 : Sh9 Γ R v0) {s : ryS} : ∀ (n : Nat) (v1 : Int64) (v3 : Int32) (v4 : Int32) (v5 : Int32), f_X9_worthOf_8 Γ (ryM s R) n v0 v1 v3 v4 v5 = g_X9_worthOf_8 s n v0 v1 v3 v4 v5 := by
  have z9v0 := hO_9_v0
  obtain ⟨q9v0_0, q9v0_1, q9v0_2, q9v0_3, q9v0_4, q9v0_5, q9v0_6, q9v0_7, q9v0_8, q9v0_9, q9v0_10, q9v0_11, q9v0_12, q9v0_13, q9v0_14, q9v0_15, q9v0_16, hO_1_v0⟩ := z9v0
  obtain ⟨q1v0_0, q1v0_1, q1v0_2, q1v0_3, q1v0_4, q1v0_5, q1v0_6, q1v0_7, q1v0_8, q1v0_9, q1v0_10, q1v0_11, q1v0_12⟩ := hO_1_v0
  intro n
  induction n with
  | zero => intros; simp only [f_X9_worthOf_8, g_X9_worthOf_8, Option.map_none]
  | succ n ih =>
    intros
    simp only [f_X9_worthOf_8, g_X9_worthOf_8, rhck, ryM_1, ryM_2, ryM_3, ry_si, ry_sl, if_true, ry_ck, Option.map_some, Option.map_none, ry_ite, ry_bm, ry_mb, Nat.add_assoc, Nat.reduceAdd, Option.some_bind, Option.bind_some, q9v0_0, q9v0_1, q9v0_2, q9v0_3, q9v0_4, q9v0_5, q9v0_6, q9v0_7, q9v0_8, q9v0_9, q9v0_10, q9v0_11, q9v0_12, q9v0_13, q9v0_14, q9v0_15, q9v0_16, q1v0_0, q1v0_1, q1v0_2, q1v0_3, q1v0_4, q1v0_5, q1v0_6, q1v0_7, q1v0_8, q1v0_9, q1v0_10, q1v0_11, q1v0_12, e_X7_digitOf, e_X9_worthOf_57 hO_9_v0 ih, ih]
set_option maxHeartbeats 400000 in
set_option maxRecDepth 100000 in
theorem e_X9_worthOf {Γ : rhG} {R : Nat → Nat → Nat} {v0 : Nat} (hO_9_v0 : Sh9 Γ R v0) {s : ryS} : ∀ (v1 : Int64), f_X9_worthOf Γ (ryM s R) v0 v1 = g_X9_worthOf s v0 v1 := by
  have z9v0 := hO_9_v0
  obtain ⟨q9v0_0, q9v0_1, q9v0_2, q9v0_3, q9v0_4, q9v0_5, q9v0_6, q9v0_7, q9v0_8, q9v0_9, q9v0_10, q9v0_11, q9v0_12, q9v0_13, q9v0_14, q9v0_15, q9v0_16, hO_1_v0⟩ := z9v0
  obtain ⟨q1v0_0, q1v0_1, q1v0_2, q1v0_3, q1v0_4, q1v0_5, q1v0_6, q1v0_7, q1v0_8, q1v0_9, q1v0_10, q1v0_11, q1v0_12⟩ := hO_1_v0
  intros
  simp only [f_X9_worthOf, g_X9_worthOf, rhck, ryM_1, ryM_2, ryM_3, ry_si, ry_sl, if_true, ry_ck, Option.map_some, Option.map_none, ry_ite, ry_bm, ry_mb, Nat.add_assoc, Nat.reduceAdd, Option.some_bind, Option.bind_some, q9v0_0, q9v0_1, q9v0_2, q9v0_3, q9v0_4, q9v0_5, q9v0_6, q9v0_7, q9v0_8, q9v0_9, q9v0_10, q9v0_11, q9v0_12, q9v0_13, q9v0_14, q9v0_15, q9v0_16, q1v0_0, q1v0_1, q1v0_2, q1v0_3, q1v0_4, q1v0_5, q1v0_6, q1v0_7, q1v0_8, q1v0_9, q1v0_10, q1v0_11, q1v0_12, e_X9_worthOf_8 hO_9_v0]
def g_X5_isMet (t : Nat) (n : Nat) (s : ryS) (v0 : Nat) (v1 : Int32) : Option (Int32 × ryS) :=
    rhck (0 ≤ (v1).toInt ∧ (v1).toInt < n) <|
    let x1 := s.2 ((v0 + 9)) v1.toNatClampNeg
    if (s.1 v0 7) = 0 then
      (if (x1 &&& (s.2 v0 9)) = (s.2 v0 8) then
        (some ((1, s)))
      else
        some ((0, s)))
    else
    if (s.1 v0 7) = 1 then
      ((g_X5_isAlone t s v0 x1).bind fun r2 =>
      rhck (r2 = 0 ∨ r2 = 1) <|
      some ((r2, s)))
    else
    (g_X9_worthOf s t x1).bind fun r3 =>
    (g_X5_keepBest s v0 v1 r3).bind fun r4 =>
    some ((0, r4))
set_option maxHeartbeats 400000 in
set_option maxRecDepth 100000 in
theorem e_X5_isMet {Γ : rhG} {R : Nat → Nat → Nat} {t : Nat} {n : Nat} {v0 : Nat} (hO_5_v0 : Sh5 Γ R v0 t n tb kn) (hO_9_t : Sh9 Γ R t) : ∀ (s : ryS) (v1 : Int32), f_X5_isMet Γ (ryM s R) v0 v1 = Option.map (fun q => (q.1, ryM q.2 R)) (g_X5_isMet t n s v0 v1) := by
  have z5v0 := hO_5_v0
  obtain ⟨q5v0_0, q5v0_1, q5v0_2, q5v0_3, q5v0_4, q5v0_5, hO5_7, hO5_0, hO5_10, hO5_2⟩ := z5v0
  obtain ⟨q57_0, q57_1, q57_2, q57_3, q57_4, q57_5, q57_6, q57_7, q57_8, q57_9, q57_10, q57_11, q57_12, q57_13, q57_14, q57_15, q57_16, q57_17, q57_18⟩ := hO5_7
  obtain ⟨q50_0, q50_1, q50_2, q50_3, q50_4, q50_5, q50_6, q50_7, q50_8, q50_9, q50_10, q50_11, q50_12, q50_13, q50_14, q50_15⟩ := hO5_0
  obtain ⟨q510_0, q510_1, q510_2, q510_3, q510_4, q510_5, q510_6, q510_7, q510_8, q510_9, q510_10, q510_11, q510_12⟩ := hO5_10
  obtain ⟨q52_0, q52_1, q52_2, q52_3, q52_4⟩ := hO5_2
  have z9t := hO_9_t
  obtain ⟨q9t_0, q9t_1, q9t_2, q9t_3, q9t_4, q9t_5, q9t_6, q9t_7, q9t_8, q9t_9, q9t_10, q9t_11, q9t_12, q9t_13, q9t_14, q9t_15, q9t_16, hO_1_t⟩ := z9t
  obtain ⟨q1t_0, q1t_1, q1t_2, q1t_3, q1t_4, q1t_5, q1t_6, q1t_7, q1t_8, q1t_9, q1t_10, q1t_11, q1t_12⟩ := hO_1_t
  intros
  simp only [f_X5_isMet, g_X5_isMet, rhck, ryM_1, ryM_2, ryM_3, ry_si, ry_sl, if_true, ry_ck, Option.map_some, Option.map_none, ry_ite, ry_bm, ry_mb, Nat.add_assoc, Nat.reduceAdd, Option.some_bind, Option.bind_some, q5v0_0, q5v0_1, q5v0_2, q5v0_3, q5v0_4, q5v0_5, q57_0, q57_1, q57_2, q57_3, q57_4, q57_5, q57_6, q57_7, q57_8, q57_9, q57_10, q57_11, q57_12, q57_13, q57_14, q57_15, q57_16, q57_17, q57_18, q50_0, q50_1, q50_2, q50_3, q50_4, q50_5, q50_6, q50_7, q50_8, q50_9, q50_10, q50_11, q50_12, q50_13, q50_14, q50_15, q510_0, q510_1, q510_2, q510_3, q510_4, q510_5, q510_6, q510_7, q510_8, q510_9, q510_10, q510_11, q510_12, q52_0, q52_1, q52_2, q52_3, q52_4, q9t_0, q9t_1, q9t_2, q9t_3, q9t_4, q9t_5, q9t_6, q9t_7, q9t_8, q9t_9, q9t_10, q9t_11, q9t_12, q9t_13, q9t_14, q9t_15, q9t_16, q1t_0, q1t_1, q1t_2, q1t_3, q1t_4, q1t_5, q1t_6, q1t_7, q1t_8, q1t_9, q1t_10, q1t_11, q1t_12, e_X5_isAlone hO_5_v0 hO_9_t, e_X9_worthOf hO_9_t, e_X5_keepBest hO_5_v0]
def g_X5_leadsAhead (n : Nat) (s : ryS) (v0 : Nat) (v1 : Int32) (v2 : Int32) : Option (Int32) :=
    rhck (0 ≤ (v1).toInt ∧ (v1).toInt < n) <|
    rhck (0 ≤ (v2).toInt ∧ (v2).toInt < n) <|
    if (s.1 ((v0 + 12)) v1.toNatClampNeg) = (s.1 ((v0 + 12)) v2.toNatClampNeg) then
      ((g_X0_isAhead n s ((v0 + 8)) v1 v2).bind fun r1 =>
      rhck (r1 = 0 ∨ r1 = 1) <|
      some r1)
    else
      if (s.1 ((v0 + 12)) v1.toNatClampNeg) < (s.1 ((v0 + 12)) v2.toNatClampNeg) then
        (some 1)
      else
        some 0
set_option maxHeartbeats 400000 in
set_option maxRecDepth 100000 in
theorem e_X5_leadsAhead {Γ : rhG} {R : Nat → Nat → Nat} {n : Nat} {v0 : Nat} (hO_5_v0 : Sh5 Γ R v0 t n tb kn) {s : ryS} : ∀ (v1 : Int32) (v2 : Int32), f_X5_leadsAhead Γ (ryM s R) v0 v1 v2 = g_X5_leadsAhead n s v0 v1 v2 := by
  have z5v0 := hO_5_v0
  obtain ⟨q5v0_0, q5v0_1, q5v0_2, q5v0_3, q5v0_4, q5v0_5, hO5_7, hO5_0, hO5_10, hO5_2⟩ := z5v0
  obtain ⟨q57_0, q57_1, q57_2, q57_3, q57_4, q57_5, q57_6, q57_7, q57_8, q57_9, q57_10, q57_11, q57_12, q57_13, q57_14, q57_15, q57_16, q57_17, q57_18⟩ := hO5_7
  obtain ⟨q50_0, q50_1, q50_2, q50_3, q50_4, q50_5, q50_6, q50_7, q50_8, q50_9, q50_10, q50_11, q50_12, q50_13, q50_14, q50_15⟩ := hO5_0
  obtain ⟨q510_0, q510_1, q510_2, q510_3, q510_4, q510_5, q510_6, q510_7, q510_8, q510_9, q510_10, q510_11, q510_12⟩ := hO5_10
  obtain ⟨q52_0, q52_1, q52_2, q52_3, q52_4⟩ := hO5_2
  intros
  simp only [f_X5_leadsAhead, g_X5_leadsAhead, rhck, ryM_1, ryM_2, ryM_3, ry_si, ry_sl, if_true, ry_ck, Option.map_some, Option.map_none, ry_ite, ry_bm, ry_mb, Nat.add_assoc, Nat.reduceAdd, Option.some_bind, Option.bind_some, q5v0_0, q5v0_1, q5v0_2, q5v0_3, q5v0_4, q5v0_5, q57_0, q57_1, q57_2, q57_3, q57_4, q57_5, q57_6, q57_7, q57_8, q57_9, q57_10, q57_11, q57_12, q57_13, q57_14, q57_15, q57_16, q57_17, q57_18, q50_0, q50_1, q50_2, q50_3, q50_4, q50_5, q50_6, q50_7, q50_8, q50_9, q50_10, q50_11, q50_12, q50_13, q50_14, q50_15, q510_0, q510_1, q510_2, q510_3, q510_4, q510_5, q510_6, q510_7, q510_8, q510_9, q510_10, q510_11, q510_12, q52_0, q52_1, q52_2, q52_3, q52_4, e_X0_isAhead (sh5_0 hO_5_v0)]
def g_X5_bestMet_52 (t : Nat) (n : Nat) (k14 : ryS → Nat → Int32 → Int32 → Int32 → Option (Int32 × ryS)) (s : ryS) (v0 : Nat) (v2 : Int32) (v3 : Int32) (v4 : Int32) : Option (Int32 × ryS) :=
    (g_X10_behind n s ((v0 + 14)) v3).bind fun r3 =>
    let x4 : Int32 := v4 + 1
    k14 s v0 v2 r3 x4
def g_X5_bestMet_50 (t : Nat) (n : Nat) (k52 : ryS → Nat → Int32 → Int32 → Int32 → Option (Int32 × ryS)) (s : ryS) (v0 : Nat) (v3 : Int32) (v4 : Int32) : Option (Int32 × ryS) :=
    k52 s v0 v3 v3 v4
def g_X5_bestMet_14 (t : Nat) (n : Nat) : Nat → ryS → Nat → Int32 → Int32 → Int32 → Option (Int32 × ryS)
  | 0, _, _, _, _, _ => none
  | n + 1, s, v0, v2, v3, v4 =>
    if v4 < (s.1 v0 0) then
      (if v3 = ((-1)) then
        (some ((v2, s)))
      else
        (g_X5_isMet t n s v0 v3).bind fun r2 =>
        if r2.1 = 0 then
          (g_X5_bestMet_52 t n (g_X5_bestMet_14 t n n) r2.2 v0 v2 v3 v4)
        else
          if v2 = ((-1)) then
            (g_X5_bestMet_50 t n (g_X5_bestMet_52 t n (g_X5_bestMet_14 t n n)) r2.2 v0 v3 v4)
          else
            (g_X5_leadsAhead n r2.2 v0 v3 v2).bind fun r5 =>
            if r5 = 0 then
              (g_X5_bestMet_52 t n (g_X5_bestMet_14 t n n) r2.2 v0 v2 v3 v4)
            else
              g_X5_bestMet_50 t n (g_X5_bestMet_52 t n (g_X5_bestMet_14 t n n)) r2.2 v0 v3 v4)
    else
      some ((v2, s))
def g_X5_bestMet (t : Nat) (n : Nat) (s : ryS) (v0 : Nat) (v1 : Int32) : Option (Int32 × ryS) :=
    (g_X10_headOf s ((v0 + 14)) v1).bind fun r1 =>
    g_X5_bestMet_14 t n rhFU s v0 ((-1)) r1 0
set_option maxHeartbeats 400000 in
set_option maxRecDepth 100000 in
theorem e_X5_bestMet_52 {Γ : rhG} {R : Nat → Nat → Nat} {t : Nat} {n : Nat} {v0 : Nat} (hO_5_v0 : Sh5 Γ R v0 t n tb kn) (hO_9_t : Sh9 Γ R t) {f14 : rhM → Nat → Int32 → Int32 → Int32 → Option (Int32 × rhM)} {k14 : ryS → Nat → Int32 → Int32 → Int32 → Option (Int32 × ryS)} (hk14 : ∀ (s : ryS) (v0 : Nat) (v2 : Int32) (v3 : Int32) (v4 : Int32), f14 (ryM s R) v0 v2 v3 v4 = Option.map (fun q => (q.1, ryM q.2 R)) (k14 s v0 v2 v3 v4)) : ∀ (s : ryS) (v2 : Int32) (v3 : Int32) (v4 : Int32), f_X5_bestMet_52 f14 Γ (ryM s R) v0 v2 v3 v4 = Option.map (fun q => (q.1, ryM q.2 R)) (g_X5_bestMet_52 t n k14 s v0 v2 v3 v4) := by
  have z5v0 := hO_5_v0
  obtain ⟨q5v0_0, q5v0_1, q5v0_2, q5v0_3, q5v0_4, q5v0_5, hO5_7, hO5_0, hO5_10, hO5_2⟩ := z5v0
  obtain ⟨q57_0, q57_1, q57_2, q57_3, q57_4, q57_5, q57_6, q57_7, q57_8, q57_9, q57_10, q57_11, q57_12, q57_13, q57_14, q57_15, q57_16, q57_17, q57_18⟩ := hO5_7
  obtain ⟨q50_0, q50_1, q50_2, q50_3, q50_4, q50_5, q50_6, q50_7, q50_8, q50_9, q50_10, q50_11, q50_12, q50_13, q50_14, q50_15⟩ := hO5_0
  obtain ⟨q510_0, q510_1, q510_2, q510_3, q510_4, q510_5, q510_6, q510_7, q510_8, q510_9, q510_10, q510_11, q510_12⟩ := hO5_10
  obtain ⟨q52_0, q52_1, q52_2, q52_3, q52_4⟩ := hO5_2
  have z9t := hO_9_t
  obtain ⟨q9t_0, q9t_1, q9t_2, q9t_3, q9t_4, q9t_5, q9t_6, q9t_7, q9t_8, q9t_9, q9t_10, q9t_11, q9t_12, q9t_13, q9t_14, q9t_15, q9t_16, hO_1_t⟩ := z9t
  obtain ⟨q1t_0, q1t_1, q1t_2, q1t_3, q1t_4, q1t_5, q1t_6, q1t_7, q1t_8, q1t_9, q1t_10, q1t_11, q1t_12⟩ := hO_1_t
  intros
  simp only [f_X5_bestMet_52, g_X5_bestMet_52, rhck, ryM_1, ryM_2, ryM_3, ry_si, ry_sl, if_true, ry_ck, Option.map_some, Option.map_none, ry_ite, ry_bm, ry_mb, Nat.add_assoc, Nat.reduceAdd, Option.some_bind, Option.bind_some, q5v0_0, q5v0_1, q5v0_2, q5v0_3, q5v0_4, q5v0_5, q57_0, q57_1, q57_2, q57_3, q57_4, q57_5, q57_6, q57_7, q57_8, q57_9, q57_10, q57_11, q57_12, q57_13, q57_14, q57_15, q57_16, q57_17, q57_18, q50_0, q50_1, q50_2, q50_3, q50_4, q50_5, q50_6, q50_7, q50_8, q50_9, q50_10, q50_11, q50_12, q50_13, q50_14, q50_15, q510_0, q510_1, q510_2, q510_3, q510_4, q510_5, q510_6, q510_7, q510_8, q510_9, q510_10, q510_11, q510_12, q52_0, q52_1, q52_2, q52_3, q52_4, q9t_0, q9t_1, q9t_2, q9t_3, q9t_4, q9t_5, q9t_6, q9t_7, q9t_8, q9t_9, q9t_10, q9t_11, q9t_12, q9t_13, q9t_14, q9t_15, q9t_16, q1t_0, q1t_1, q1t_2, q1t_3, q1t_4, q1t_5, q1t_6, q1t_7, q1t_8, q1t_9, q1t_10, q1t_11, q1t_12, e_X10_behind (sh5_10 hO_5_v0), hk14]
set_option maxHeartbeats 400000 in
set_option maxRecDepth 100000 in
theorem e_X5_bestMet_50 {Γ : rhG} {R : Nat → Nat → Nat} {t : Nat} {n : Nat} {v0 : Nat} (hO_5_v0 : Sh5 Γ R v0 t n tb kn) (hO_9_t : Sh9 Γ R t) {f52 : rhM → Nat → Int32 → Int32 → Int32 → Option (Int32 × rhM)} {k52 : ryS → Nat → Int32 → Int32 → Int32 → Option (Int32 × ryS)} (hk52 : ∀ (s : ryS) (v0 : Nat) (v2 : Int32) (v3 : Int32) (v4 : Int32), f52 (ryM s R) v0 v2 v3 v4 = Option.map (fun q => (q.1, ryM q.2 R)) (k52 s v0 v2 v3 v4)) : ∀ (s : ryS) (v3 : Int32) (v4 : Int32), f_X5_bestMet_50 f52 Γ (ryM s R) v0 v3 v4 = Option.map (fun q => (q.1, ryM q.2 R)) (g_X5_bestMet_50 t n k52 s v0 v3 v4) := by
  have z5v0 := hO_5_v0
  obtain ⟨q5v0_0, q5v0_1, q5v0_2, q5v0_3, q5v0_4, q5v0_5, hO5_7, hO5_0, hO5_10, hO5_2⟩ := z5v0
  obtain ⟨q57_0, q57_1, q57_2, q57_3, q57_4, q57_5, q57_6, q57_7, q57_8, q57_9, q57_10, q57_11, q57_12, q57_13, q57_14, q57_15, q57_16, q57_17, q57_18⟩ := hO5_7
  obtain ⟨q50_0, q50_1, q50_2, q50_3, q50_4, q50_5, q50_6, q50_7, q50_8, q50_9, q50_10, q50_11, q50_12, q50_13, q50_14, q50_15⟩ := hO5_0
  obtain ⟨q510_0, q510_1, q510_2, q510_3, q510_4, q510_5, q510_6, q510_7, q510_8, q510_9, q510_10, q510_11, q510_12⟩ := hO5_10
  obtain ⟨q52_0, q52_1, q52_2, q52_3, q52_4⟩ := hO5_2
  have z9t := hO_9_t
  obtain ⟨q9t_0, q9t_1, q9t_2, q9t_3, q9t_4, q9t_5, q9t_6, q9t_7, q9t_8, q9t_9, q9t_10, q9t_11, q9t_12, q9t_13, q9t_14, q9t_15, q9t_16, hO_1_t⟩ := z9t
  obtain ⟨q1t_0, q1t_1, q1t_2, q1t_3, q1t_4, q1t_5, q1t_6, q1t_7, q1t_8, q1t_9, q1t_10, q1t_11, q1t_12⟩ := hO_1_t
  intros
  simp only [f_X5_bestMet_50, g_X5_bestMet_50, rhck, ryM_1, ryM_2, ryM_3, ry_si, ry_sl, if_true, ry_ck, Option.map_some, Option.map_none, ry_ite, ry_bm, ry_mb, Nat.add_assoc, Nat.reduceAdd, Option.some_bind, Option.bind_some, q5v0_0, q5v0_1, q5v0_2, q5v0_3, q5v0_4, q5v0_5, q57_0, q57_1, q57_2, q57_3, q57_4, q57_5, q57_6, q57_7, q57_8, q57_9, q57_10, q57_11, q57_12, q57_13, q57_14, q57_15, q57_16, q57_17, q57_18, q50_0, q50_1, q50_2, q50_3, q50_4, q50_5, q50_6, q50_7, q50_8, q50_9, q50_10, q50_11, q50_12, q50_13, q50_14, q50_15, q510_0, q510_1, q510_2, q510_3, q510_4, q510_5, q510_6, q510_7, q510_8, q510_9, q510_10, q510_11, q510_12, q52_0, q52_1, q52_2, q52_3, q52_4, q9t_0, q9t_1, q9t_2, q9t_3, q9t_4, q9t_5, q9t_6, q9t_7, q9t_8, q9t_9, q9t_10, q9t_11, q9t_12, q9t_13, q9t_14, q9t_15, q9t_16, q1t_0, q1t_1, q1t_2, q1t_3, q1t_4, q1t_5, q1t_6, q1t_7, q1t_8, q1t_9, q1t_10, q1t_11, q1t_12, hk52]
set_option maxHeartbeats 400000 in
set_option maxRecDepth 100000 in
theorem e_X5_bestMet_14 {Γ : rhG} {R : Nat → Nat → Nat} {t : Nat} {n : Nat} {v0 : Nat} (hO_5_v0 : Sh5 Γ R v0 t n tb kn) (hO_9_t : Sh9 Γ R t) : ∀ (n : Nat) (s : ryS) (v2 : Int32) (v3 : Int32) (v4 : Int32), f_X5_bestMet_14 Γ n (ryM s R) v0 v2 v3 v4 = Option.map (fun q => (q.1, ryM q.2 R)) (g_X5_bestMet_14 t n n s v0 v2 v3 v4) := by
  have z5v0 := hO_5_v0
  obtain ⟨q5v0_0, q5v0_1, q5v0_2, q5v0_3, q5v0_4, q5v0_5, hO5_7, hO5_0, hO5_10, hO5_2⟩ := z5v0
  obtain ⟨q57_0, q57_1, q57_2, q57_3, q57_4, q57_5, q57_6, q57_7, q57_8, q57_9, q57_10, q57_11, q57_12, q57_13, q57_14, q57_15, q57_16, q57_17, q57_18⟩ := hO5_7
  obtain ⟨q50_0, q50_1, q50_2, q50_3, q50_4, q50_5, q50_6, q50_7, q50_8, q50_9, q50_10, q50_11, q50_12, q50_13, q50_14, q50_15⟩ := hO5_0
  obtain ⟨q510_0, q510_1, q510_2, q510_3, q510_4, q510_5, q510_6, q510_7, q510_8, q510_9, q510_10, q510_11, q510_12⟩ := hO5_10
  obtain ⟨q52_0, q52_1, q52_2, q52_3, q52_4⟩ := hO5_2
  have z9t := hO_9_t
  obtain ⟨q9t_0, q9t_1, q9t_2, q9t_3, q9t_4, q9t_5, q9t_6, q9t_7, q9t_8, q9t_9, q9t_10, q9t_11, q9t_12, q9t_13, q9t_14, q9t_15, q9t_16, hO_1_t⟩ := z9t
  obtain ⟨q1t_0, q1t_1, q1t_2, q1t_3, q1t_4, q1t_5, q1t_6, q1t_7, q1t_8, q1t_9, q1t_10, q1t_11, q1t_12⟩ := hO_1_t
  intro n
  induction n with
  | zero => intros; simp only [f_X5_bestMet_14, g_X5_bestMet_14, Option.map_none]
  | succ n ih =>
    intros
    simp only [f_X5_bestMet_14, g_X5_bestMet_14, rhck, ryM_1, ryM_2, ryM_3, ry_si, ry_sl, if_true, ry_ck, Option.map_some, Option.map_none, ry_ite, ry_bm, ry_mb, Nat.add_assoc, Nat.reduceAdd, Option.some_bind, Option.bind_some, q5v0_0, q5v0_1, q5v0_2, q5v0_3, q5v0_4, q5v0_5, q57_0, q57_1, q57_2, q57_3, q57_4, q57_5, q57_6, q57_7, q57_8, q57_9, q57_10, q57_11, q57_12, q57_13, q57_14, q57_15, q57_16, q57_17, q57_18, q50_0, q50_1, q50_2, q50_3, q50_4, q50_5, q50_6, q50_7, q50_8, q50_9, q50_10, q50_11, q50_12, q50_13, q50_14, q50_15, q510_0, q510_1, q510_2, q510_3, q510_4, q510_5, q510_6, q510_7, q510_8, q510_9, q510_10, q510_11, q510_12, q52_0, q52_1, q52_2, q52_3, q52_4, q9t_0, q9t_1, q9t_2, q9t_3, q9t_4, q9t_5, q9t_6, q9t_7, q9t_8, q9t_9, q9t_10, q9t_11, q9t_12, q9t_13, q9t_14, q9t_15, q9t_16, q1t_0, q1t_1, q1t_2, q1t_3, q1t_4, q1t_5, q1t_6, q1t_7, q1t_8, q1t_9, q1t_10, q1t_11, q1t_12, e_X5_isMet hO_5_v0 hO_9_t, e_X5_leadsAhead hO_5_v0, e_X5_bestMet_52 hO_5_v0 hO_9_t ih, e_X5_bestMet_50 hO_5_v0 hO_9_t (e_X5_bestMet_52 hO_5_v0 hO_9_t ih), ih]
set_option maxHeartbeats 400000 in
set_option maxRecDepth 100000 in
theorem e_X5_bestMet {Γ : rhG} {R : Nat → Nat → Nat} {t : Nat} {n : Nat} {v0 : Nat} (hO_5_v0 : Sh5 Γ R v0 t n tb kn) (hO_9_t : Sh9 Γ R t) : ∀ (s : ryS) (v1 : Int32), f_X5_bestMet Γ (ryM s R) v0 v1 = Option.map (fun q => (q.1, ryM q.2 R)) (g_X5_bestMet t n s v0 v1) := by
  have z5v0 := hO_5_v0
  obtain ⟨q5v0_0, q5v0_1, q5v0_2, q5v0_3, q5v0_4, q5v0_5, hO5_7, hO5_0, hO5_10, hO5_2⟩ := z5v0
  obtain ⟨q57_0, q57_1, q57_2, q57_3, q57_4, q57_5, q57_6, q57_7, q57_8, q57_9, q57_10, q57_11, q57_12, q57_13, q57_14, q57_15, q57_16, q57_17, q57_18⟩ := hO5_7
  obtain ⟨q50_0, q50_1, q50_2, q50_3, q50_4, q50_5, q50_6, q50_7, q50_8, q50_9, q50_10, q50_11, q50_12, q50_13, q50_14, q50_15⟩ := hO5_0
  obtain ⟨q510_0, q510_1, q510_2, q510_3, q510_4, q510_5, q510_6, q510_7, q510_8, q510_9, q510_10, q510_11, q510_12⟩ := hO5_10
  obtain ⟨q52_0, q52_1, q52_2, q52_3, q52_4⟩ := hO5_2
  have z9t := hO_9_t
  obtain ⟨q9t_0, q9t_1, q9t_2, q9t_3, q9t_4, q9t_5, q9t_6, q9t_7, q9t_8, q9t_9, q9t_10, q9t_11, q9t_12, q9t_13, q9t_14, q9t_15, q9t_16, hO_1_t⟩ := z9t
  obtain ⟨q1t_0, q1t_1, q1t_2, q1t_3, q1t_4, q1t_5, q1t_6, q1t_7, q1t_8, q1t_9, q1t_10, q1t_11, q1t_12⟩ := hO_1_t
  intros
  simp only [f_X5_bestMet, g_X5_bestMet, rhck, ryM_1, ryM_2, ryM_3, ry_si, ry_sl, if_true, ry_ck, Option.map_some, Option.map_none, ry_ite, ry_bm, ry_mb, Nat.add_assoc, Nat.reduceAdd, Option.some_bind, Option.bind_some, q5v0_0, q5v0_1, q5v0_2, q5v0_3, q5v0_4, q5v0_5, q57_0, q57_1, q57_2, q57_3, q57_4, q57_5, q57_6, q57_7, q57_8, q57_9, q57_10, q57_11, q57_12, q57_13, q57_14, q57_15, q57_16, q57_17, q57_18, q50_0, q50_1, q50_2, q50_3, q50_4, q50_5, q50_6, q50_7, q50_8, q50_9, q50_10, q50_11, q50_12, q50_13, q50_14, q50_15, q510_0, q510_1, q510_2, q510_3, q510_4, q510_5, q510_6, q510_7, q510_8, q510_9, q510_10, q510_11, q510_12, q52_0, q52_1, q52_2, q52_3, q52_4, q9t_0, q9t_1, q9t_2, q9t_3, q9t_4, q9t_5, q9t_6, q9t_7, q9t_8, q9t_9, q9t_10, q9t_11, q9t_12, q9t_13, q9t_14, q9t_15, q9t_16, q1t_0, q1t_1, q1t_2, q1t_3, q1t_4, q1t_5, q1t_6, q1t_7, q1t_8, q1t_9, q1t_10, q1t_11, q1t_12, e_X10_headOf (sh5_10 hO_5_v0), e_X5_bestMet_14 hO_5_v0 hO_9_t]
def g_X7_ones (s : ryS) (v0 : Int32) : Option (Int64) :=
    some ((rhsh ((1 : Int64)) (4 * v0)) - ((1 : Int64)))
set_option maxHeartbeats 400000 in
set_option maxRecDepth 100000 in
theorem e_X7_ones {Γ : rhG} {R : Nat → Nat → Nat} {s : ryS} : ∀ (v0 : Int32), f_X7_ones Γ (ryM s R) v0 = g_X7_ones s v0 := by
  intros
  simp only [f_X7_ones, g_X7_ones, rhck, ryM_1, ryM_2, ryM_3, ry_si, ry_sl, if_true, ry_ck, Option.map_some, Option.map_none, ry_ite, ry_bm, ry_mb, Nat.add_assoc, Nat.reduceAdd, Option.some_bind, Option.bind_some]
def g_X7_swapped (s : ryS) (v0 : Nat) (v1 : Int32) (v2 : Int32) (v3 : Int32) : Option (Int64) :=
    (g_X7_ones s (v2 - v1)).bind fun r1 =>
    let x2 := (rhul (s.2 v0 0) (4 * v1)) &&& r1
    (g_X7_ones s (v3 - v2)).bind fun r3 =>
    let x4 := (rhul (s.2 v0 0) (4 * v2)) &&& r3
    (g_X7_ones s (v3 - v1)).bind fun r5 =>
    let x6 := (s.2 v0 0) &&& ((rhsh r5 (4 * v1)) ^^^ ((-1 : Int64)))
    some ((x6 ||| (rhsh x4 (4 * v1))) ||| (rhsh x2 (4 * ((v1 + v3) - v2))))
set_option maxHeartbeats 400000 in
set_option maxRecDepth 100000 in
theorem e_X7_swapped {Γ : rhG} {R : Nat → Nat → Nat} {v0 : Nat} (hO_7_v0 : Sh7 Γ R v0) {s : ryS} : ∀ (v1 : Int32) (v2 : Int32) (v3 : Int32), f_X7_swapped Γ (ryM s R) v0 v1 v2 v3 = g_X7_swapped s v0 v1 v2 v3 := by
  have z7v0 := hO_7_v0
  obtain ⟨q7v0_0, q7v0_1, q7v0_2, q7v0_3, q7v0_4, q7v0_5, q7v0_6, q7v0_7, q7v0_8, q7v0_9, q7v0_10, q7v0_11, q7v0_12, q7v0_13, q7v0_14, q7v0_15, q7v0_16, q7v0_17, q7v0_18⟩ := z7v0
  intros
  simp only [f_X7_swapped, g_X7_swapped, rhck, ryM_1, ryM_2, ryM_3, ry_si, ry_sl, if_true, ry_ck, Option.map_some, Option.map_none, ry_ite, ry_bm, ry_mb, Nat.add_assoc, Nat.reduceAdd, Option.some_bind, Option.bind_some, q7v0_0, q7v0_1, q7v0_2, q7v0_3, q7v0_4, q7v0_5, q7v0_6, q7v0_7, q7v0_8, q7v0_9, q7v0_10, q7v0_11, q7v0_12, q7v0_13, q7v0_14, q7v0_15, q7v0_16, q7v0_17, q7v0_18, e_X7_ones, e_X7_ones, e_X7_ones]
def g_X7_after (s : ryS) (v0 : Nat) (v1 : Int32) (v2 : Int32) (v3 : Int32) : Option (Int64) :=
    rhck (0 ≤ (v1).toInt ∧ (v1).toInt < (5 : Nat)) <|
    let x1 := s.1 ((v0 + 2)) v1.toNatClampNeg
    if v1 < v3 then
      (rhck (0 ≤ (v3).toInt ∧ (v3).toInt < (5 : Nat)) <|
      (g_X7_swapped s v0 (x1 - v2) x1 (s.1 ((v0 + 2)) v3.toNatClampNeg)).bind fun r2 =>
      some r2)
    else
      rhck (0 ≤ (v3).toInt ∧ (v3).toInt < (5 : Nat)) <|
      (g_X7_swapped s v0 (s.1 ((v0 + 2)) v3.toNatClampNeg) (x1 - v2) x1).bind fun r3 =>
      some r3
set_option maxHeartbeats 400000 in
set_option maxRecDepth 100000 in
theorem e_X7_after {Γ : rhG} {R : Nat → Nat → Nat} {v0 : Nat} (hO_7_v0 : Sh7 Γ R v0) {s : ryS} : ∀ (v1 : Int32) (v2 : Int32) (v3 : Int32), f_X7_after Γ (ryM s R) v0 v1 v2 v3 = g_X7_after s v0 v1 v2 v3 := by
  have z7v0 := hO_7_v0
  obtain ⟨q7v0_0, q7v0_1, q7v0_2, q7v0_3, q7v0_4, q7v0_5, q7v0_6, q7v0_7, q7v0_8, q7v0_9, q7v0_10, q7v0_11, q7v0_12, q7v0_13, q7v0_14, q7v0_15, q7v0_16, q7v0_17, q7v0_18⟩ := z7v0
  intros
  simp only [f_X7_after, g_X7_after, rhck, ryM_1, ryM_2, ryM_3, ry_si, ry_sl, if_true, ry_ck, Option.map_some, Option.map_none, ry_ite, ry_bm, ry_mb, Nat.add_assoc, Nat.reduceAdd, Option.some_bind, Option.bind_some, q7v0_0, q7v0_1, q7v0_2, q7v0_3, q7v0_4, q7v0_5, q7v0_6, q7v0_7, q7v0_8, q7v0_9, q7v0_10, q7v0_11, q7v0_12, q7v0_13, q7v0_14, q7v0_15, q7v0_16, q7v0_17, q7v0_18, e_X7_swapped hO_7_v0, e_X7_swapped hO_7_v0]
def g_X7_listPulls_168 (t : Nat) (kn : Nat) (k64 : ryS → Nat → Nat → Nat → Int32 → Int32 → Int32 → Int32 → Int32 → Option (ryS)) (s : ryS) (v0 : Nat) (v1 : Nat) (v2 : Nat) (v3 : Int32) (v4 : Int32) (v5 : Int32) (v6 : Int32) (v7 : Int32) : Option (ryS) :=
    let x6 : Int32 := v7 + 1
    k64 s v0 v1 v2 v3 v4 v5 v6 x6
def g_X7_listPulls_64 (t : Nat) (kn : Nat) (k174 : ryS → Nat → Nat → Nat → Int32 → Int32 → Int32 → Int32 → Option (ryS)) : Nat → ryS → Nat → Nat → Nat → Int32 → Int32 → Int32 → Int32 → Int32 → Option (ryS)
  | 0, _, _, _, _, _, _, _, _, _ => none
  | n + 1, s, v0, v1, v2, v3, v4, v5, v6, v7 =>
    if v7 < (s.1 v0 1) then
      (if v7 = v3 then
        (g_X7_listPulls_168 t kn (g_X7_listPulls_64 t kn k174 n) s v0 v1 v2 v3 v4 v5 v6 v7)
      else
        if (s.1 v0 5) < 32 then
          (rhck (0 ≤ (v7).toInt ∧ (v7).toInt < (5 : Nat)) <|
          (g_X2_allows t kn s v2 v3 v4 v7 (s.1 ((v0 + 3)) v7.toNatClampNeg)).bind fun r7 =>
          if r7.1 = 0 then
            (g_X7_listPulls_168 t kn (g_X7_listPulls_64 t kn k174 n) r7.2 v0 v1 v2 v3 v4 v5 v6 v7)
          else
            (g_X7_after r7.2 v0 v3 v5 v7).bind fun r8 =>
            rhck (0 ≤ (r7.2.1 v0 5).toInt ∧ (r7.2.1 v0 5).toInt < (32 : Nat)) <|
            let s9 := rysl r7.2 ((v0 + 4)) (r7.2.1 v0 5 : Int32).toNatClampNeg r8
            (g_X3_code s9 v3 v5 v7).bind fun r10 =>
            rhck (0 ≤ (s9.1 v0 5).toInt ∧ (s9.1 v0 5).toInt < (32 : Nat)) <|
            let s11 := rysi s9 ((v0 + 5)) (s9.1 v0 5 : Int32).toNatClampNeg r10
            rhck (0 ≤ (v4).toInt ∧ (v4).toInt < (256 : Nat)) <|
            rhck (0 ≤ (s11.1 v0 5).toInt ∧ (s11.1 v0 5).toInt < (32 : Nat)) <|
            let s12 := rysi s11 ((v0 + 6)) (s11.1 v0 5 : Int32).toNatClampNeg ((s11.1 ((v1 + 3)) v4.toNatClampNeg))
            let s13 := rysi s12 v0 5 ((s12.1 v0 5) + 1)
            g_X7_listPulls_168 t kn (g_X7_listPulls_64 t kn k174 n) s13 v0 v1 v2 v3 v4 v5 v6 v7)
        else
          g_X7_listPulls_168 t kn (g_X7_listPulls_64 t kn k174 n) s v0 v1 v2 v3 v4 v5 v6 v7)
    else
      k174 s v0 v1 v2 v3 v4 v5 v6
def g_X7_listPulls_174 (t : Nat) (kn : Nat) (k31 : ryS → Nat → Nat → Nat → Int32 → Int32 → Int32 → Int32 → Option (ryS)) (s : ryS) (v0 : Nat) (v1 : Nat) (v2 : Nat) (v3 : Int32) (v4 : Int32) (v5 : Int32) (v6 : Int32) : Option (ryS) :=
    let x14 : Int32 := v6 + (-1)
    k31 s v0 v1 v2 v3 v4 v5 x14
def g_X7_listPulls_31 (t : Nat) (kn : Nat) (k180 : ryS → Nat → Nat → Nat → Int32 → Option (ryS)) : Nat → ryS → Nat → Nat → Nat → Int32 → Int32 → Int32 → Int32 → Option (ryS)
  | 0, _, _, _, _, _, _, _, _ => none
  | n + 1, s, v0, v1, v2, v3, v4, v5, v6 =>
    rhck (0 ≤ (v3).toInt ∧ (v3).toInt < (5 : Nat)) <|
    if v6 < (s.1 ((v0 + 1)) v3.toNatClampNeg) then
      (k180 s v0 v1 v2 v3)
    else
      (g_X7_digitOf s (s.2 v0 0) v6).bind fun r3 =>
      let x4 := v4 ||| (1 <<< (r3 &&& 31))
      let x5 : Int32 := v5 + 1
      g_X7_listPulls_64 t kn (g_X7_listPulls_174 t kn (g_X7_listPulls_31 t kn k180 n)) rhFU s v0 v1 v2 v3 x4 x5 v6 0
def g_X7_listPulls_180 (t : Nat) (kn : Nat) (k7 : ryS → Nat → Nat → Nat → Int32 → Option (ryS)) (s : ryS) (v0 : Nat) (v1 : Nat) (v2 : Nat) (v3 : Int32) : Option (ryS) :=
    let x15 : Int32 := v3 + 1
    k7 s v0 v1 v2 x15
def g_X7_listPulls_7 (t : Nat) (kn : Nat) : Nat → ryS → Nat → Nat → Nat → Int32 → Option (ryS)
  | 0, _, _, _, _, _ => none
  | n + 1, s, v0, v1, v2, v3 =>
    if v3 < (s.1 v0 1) then
      (rhck (0 ≤ (v3).toInt ∧ (v3).toInt < (5 : Nat)) <|
      let x2 := (s.1 ((v0 + 2)) v3.toNatClampNeg) - 1
      g_X7_listPulls_31 t kn (g_X7_listPulls_180 t kn (g_X7_listPulls_7 t kn n)) rhFU s v0 v1 v2 v3 0 0 x2)
    else
      some s
def g_X7_listPulls (t : Nat) (kn : Nat) (s : ryS) (v0 : Nat) (v1 : Nat) (v2 : Nat) : Option (ryS) :=
    let s1 := rysi s v0 5 0
    g_X7_listPulls_7 t kn rhFU s1 v0 v1 v2 0
set_option maxHeartbeats 400000 in
set_option maxRecDepth 100000 in
theorem e_X7_listPulls_168 {Γ : rhG} {R : Nat → Nat → Nat} {t : Nat} {kn : Nat} {v0 : Nat} {v1 : Nat} {v2 : Nat} (hO_2_v2 : Sh2 Γ R v2 t kn) (hO_7_v0 : Sh7 Γ R v0) (hO_9_t : Sh9 Γ R t) (hO_9_v1 : Sh9 Γ R v1) {f64 : rhM → Nat → Nat → Nat → Int32 → Int32 → Int32 → Int32 → Int32 → Option (rhM)} {k64 : ryS → Nat → Nat → Nat → Int32 → Int32 → Int32 → Int32 → Int32 → Option (ryS)} (hk64 : ∀ (s : ryS) (v0 : Nat) (v1 : Nat) (v2 : Nat) (v3 : Int32) (v4 : Int32) (v5 : Int32) (v6 : Int32) (v7 : Int32), f64 (ryM s R) v0 v1 v2 v3 v4 v5 v6 v7 = Option.map (fun s => ryM s R) (k64 s v0 v1 v2 v3 v4 v5 v6 v7)) : ∀ (s : ryS) (v3 : Int32) (v4 : Int32) (v5 : Int32) (v6 : Int32) (v7 : Int32), f_X7_listPulls_168 f64 Γ (ryM s R) v0 v1 v2 v3 v4 v5 v6 v7 = Option.map (fun s => ryM s R) (g_X7_listPulls_168 t kn k64 s v0 v1 v2 v3 v4 v5 v6 v7) := by
  have z2v2 := hO_2_v2
  obtain ⟨q2v2_0, q2v2_1, q2v2_2, q2v2_3, q2v2_4⟩ := z2v2
  have z7v0 := hO_7_v0
  obtain ⟨q7v0_0, q7v0_1, q7v0_2, q7v0_3, q7v0_4, q7v0_5, q7v0_6, q7v0_7, q7v0_8, q7v0_9, q7v0_10, q7v0_11, q7v0_12, q7v0_13, q7v0_14, q7v0_15, q7v0_16, q7v0_17, q7v0_18⟩ := z7v0
  have z9t := hO_9_t
  obtain ⟨q9t_0, q9t_1, q9t_2, q9t_3, q9t_4, q9t_5, q9t_6, q9t_7, q9t_8, q9t_9, q9t_10, q9t_11, q9t_12, q9t_13, q9t_14, q9t_15, q9t_16, hO_1_t⟩ := z9t
  obtain ⟨q1t_0, q1t_1, q1t_2, q1t_3, q1t_4, q1t_5, q1t_6, q1t_7, q1t_8, q1t_9, q1t_10, q1t_11, q1t_12⟩ := hO_1_t
  have z9v1 := hO_9_v1
  obtain ⟨q9v1_0, q9v1_1, q9v1_2, q9v1_3, q9v1_4, q9v1_5, q9v1_6, q9v1_7, q9v1_8, q9v1_9, q9v1_10, q9v1_11, q9v1_12, q9v1_13, q9v1_14, q9v1_15, q9v1_16, hO_1_v1⟩ := z9v1
  obtain ⟨q1v1_0, q1v1_1, q1v1_2, q1v1_3, q1v1_4, q1v1_5, q1v1_6, q1v1_7, q1v1_8, q1v1_9, q1v1_10, q1v1_11, q1v1_12⟩ := hO_1_v1
  intros
  simp only [f_X7_listPulls_168, g_X7_listPulls_168, rhck, ryM_1, ryM_2, ryM_3, ry_si, ry_sl, if_true, ry_ck, Option.map_some, Option.map_none, ry_ite, ry_bm, ry_mb, Nat.add_assoc, Nat.reduceAdd, Option.some_bind, Option.bind_some, q2v2_0, q2v2_1, q2v2_2, q2v2_3, q2v2_4, q7v0_0, q7v0_1, q7v0_2, q7v0_3, q7v0_4, q7v0_5, q7v0_6, q7v0_7, q7v0_8, q7v0_9, q7v0_10, q7v0_11, q7v0_12, q7v0_13, q7v0_14, q7v0_15, q7v0_16, q7v0_17, q7v0_18, q9t_0, q9t_1, q9t_2, q9t_3, q9t_4, q9t_5, q9t_6, q9t_7, q9t_8, q9t_9, q9t_10, q9t_11, q9t_12, q9t_13, q9t_14, q9t_15, q9t_16, q1t_0, q1t_1, q1t_2, q1t_3, q1t_4, q1t_5, q1t_6, q1t_7, q1t_8, q1t_9, q1t_10, q1t_11, q1t_12, q9v1_0, q9v1_1, q9v1_2, q9v1_3, q9v1_4, q9v1_5, q9v1_6, q9v1_7, q9v1_8, q9v1_9, q9v1_10, q9v1_11, q9v1_12, q9v1_13, q9v1_14, q9v1_15, q9v1_16, q1v1_0, q1v1_1, q1v1_2, q1v1_3, q1v1_4, q1v1_5, q1v1_6, q1v1_7, q1v1_8, q1v1_9, q1v1_10, q1v1_11, q1v1_12, hk64]
set_option maxHeartbeats 400000 in
set_option maxRecDepth 100000 in
theorem e_X7_listPulls_64 {Γ : rhG} {R : Nat → Nat → Nat} {t : Nat} {kn : Nat} {v0 : Nat} {v1 : Nat} {v2 : Nat} (hO_2_v2 : Sh2 Γ R v2 t kn) (hO_7_v0 : Sh7 Γ R v0) (hO_9_t : Sh9 Γ R t) (hO_9_v1 : Sh9 Γ R v1) {f174 : rhM → Nat → Nat → Nat → Int32 → Int32 → Int32 → Int32 → Option (rhM)} {k174 : ryS → Nat → Nat → Nat → Int32 → Int32 → Int32 → Int32 → Option (ryS)} (hk174 : ∀ (s : ryS) (v0 : Nat) (v1 : Nat) (v2 : Nat) (v3 : Int32) (v4 : Int32) (v5 : Int32) (v6 : Int32), f174 (ryM s R) v0 v1 v2 v3 v4 v5 v6 = Option.map (fun s => ryM s R) (k174 s v0 v1 v2 v3 v4 v5 v6)) : ∀ (n : Nat) (s : ryS) (v3 : Int32) (v4 : Int32) (v5 : Int32) (v6 : Int32) (v7 : Int32), f_X7_listPulls_64 f174 Γ n (ryM s R) v0 v1 v2 v3 v4 v5 v6 v7 = Option.map (fun s => ryM s R) (g_X7_listPulls_64 t kn k174 n s v0 v1 v2 v3 v4 v5 v6 v7) := by
  have z2v2 := hO_2_v2
  obtain ⟨q2v2_0, q2v2_1, q2v2_2, q2v2_3, q2v2_4⟩ := z2v2
  have z7v0 := hO_7_v0
  obtain ⟨q7v0_0, q7v0_1, q7v0_2, q7v0_3, q7v0_4, q7v0_5, q7v0_6, q7v0_7, q7v0_8, q7v0_9, q7v0_10, q7v0_11, q7v0_12, q7v0_13, q7v0_14, q7v0_15, q7v0_16, q7v0_17, q7v0_18⟩ := z7v0
  have z9t := hO_9_t
  obtain ⟨q9t_0, q9t_1, q9t_2, q9t_3, q9t_4, q9t_5, q9t_6, q9t_7, q9t_8, q9t_9, q9t_10, q9t_11, q9t_12, q9t_13, q9t_14, q9t_15, q9t_16, hO_1_t⟩ := z9t
  obtain ⟨q1t_0, q1t_1, q1t_2, q1t_3, q1t_4, q1t_5, q1t_6, q1t_7, q1t_8, q1t_9, q1t_10, q1t_11, q1t_12⟩ := hO_1_t
  have z9v1 := hO_9_v1
  obtain ⟨q9v1_0, q9v1_1, q9v1_2, q9v1_3, q9v1_4, q9v1_5, q9v1_6, q9v1_7, q9v1_8, q9v1_9, q9v1_10, q9v1_11, q9v1_12, q9v1_13, q9v1_14, q9v1_15, q9v1_16, hO_1_v1⟩ := z9v1
  obtain ⟨q1v1_0, q1v1_1, q1v1_2, q1v1_3, q1v1_4, q1v1_5, q1v1_6, q1v1_7, q1v1_8, q1v1_9, q1v1_10, q1v1_11, q1v1_12⟩ := hO_1_v1
  intro n
  induction n with
  | zero => intros; simp only [f_X7_listPulls_64, g_X7_listPulls_64, Option.map_none]
  | succ n ih =>
    intros
    simp only [f_X7_listPulls_64, g_X7_listPulls_64, rhck, ryM_1, ryM_2, ryM_3, ry_si, ry_sl, if_true, ry_ck, Option.map_some, Option.map_none, ry_ite, ry_bm, ry_mb, Nat.add_assoc, Nat.reduceAdd, Option.some_bind, Option.bind_some, q2v2_0, q2v2_1, q2v2_2, q2v2_3, q2v2_4, q7v0_0, q7v0_1, q7v0_2, q7v0_3, q7v0_4, q7v0_5, q7v0_6, q7v0_7, q7v0_8, q7v0_9, q7v0_10, q7v0_11, q7v0_12, q7v0_13, q7v0_14, q7v0_15, q7v0_16, q7v0_17, q7v0_18, q9t_0, q9t_1, q9t_2, q9t_3, q9t_4, q9t_5, q9t_6, q9t_7, q9t_8, q9t_9, q9t_10, q9t_11, q9t_12, q9t_13, q9t_14, q9t_15, q9t_16, q1t_0, q1t_1, q1t_2, q1t_3, q1t_4, q1t_5, q1t_6, q1t_7, q1t_8, q1t_9, q1t_10, q1t_11, q1t_12, q9v1_0, q9v1_1, q9v1_2, q9v1_3, q9v1_4, q9v1_5, q9v1_6, q9v1_7, q9v1_8, q9v1_9, q9v1_10, q9v1_11, q9v1_12, q9v1_13, q9v1_14, q9v1_15, q9v1_16, q1v1_0, q1v1_1, q1v1_2, q1v1_3, q1v1_4, q1v1_5, q1v1_6, q1v1_7, q1v1_8, q1v1_9, q1v1_10, q1v1_11, q1v1_12, e_X2_allows hO_2_v2 hO_9_t, e_X7_after hO_7_v0, e_X3_code, hk174, e_X7_listPulls_168 hO_2_v2 hO_7_v0 hO_9_t hO_9_v1 ih, ih]
set_option maxHeartbeats 400000 in
set_option maxRecDepth 100000 in
theorem e_X7_listPulls_174 {Γ : rhG} {R : Nat → Nat → Nat} {t : Nat} {kn : Nat} {v0 : Nat} {v1 : Nat} {v2 : Nat} (hO_2_v2 : Sh2 Γ R v2 t kn) (hO_7_v0 : Sh7 Γ R v0) (hO_9_t : Sh9 Γ R t) (hO_9_v1 : Sh9 Γ R v1) {f31 : rhM → Nat → Nat → Nat → Int32 → Int32 → Int32 → Int32 → Option (rhM)} {k31 : ryS → Nat → Nat → Nat → Int32 → Int32 → Int32 → Int32 → Option (ryS)} (hk31 : ∀ (s : ryS) (v0 : Nat) (v1 : Nat) (v2 : Nat) (v3 : Int32) (v4 : Int32) (v5 : Int32) (v6 : Int32), f31 (ryM s R) v0 v1 v2 v3 v4 v5 v6 = Option.map (fun s => ryM s R) (k31 s v0 v1 v2 v3 v4 v5 v6)) : ∀ (s : ryS) (v3 : Int32) (v4 : Int32) (v5 : Int32) (v6 : Int32), f_X7_listPulls_174 f31 Γ (ryM s R) v0 v1 v2 v3 v4 v5 v6 = Option.map (fun s => ryM s R) (g_X7_listPulls_174 t kn k31 s v0 v1 v2 v3 v4 v5 v6) := by
  have z2v2 := hO_2_v2
  obtain ⟨q2v2_0, q2v2_1, q2v2_2, q2v2_3, q2v2_4⟩ := z2v2
  have z7v0 := hO_7_v0
  obtain ⟨q7v0_0, q7v0_1, q7v0_2, q7v0_3, q7v0_4, q7v0_5, q7v0_6, q7v0_7, q7v0_8, q7v0_9, q7v0_10, q7v0_11, q7v0_12, q7v0_13, q7v0_14, q7v0_15, q7v0_16, q7v0_17, q7v0_18⟩ := z7v0
  have z9t := hO_9_t
  obtain ⟨q9t_0, q9t_1, q9t_2, q9t_3, q9t_4, q9t_5, q9t_6, q9t_7, q9t_8, q9t_9, q9t_10, q9t_11, q9t_12, q9t_13, q9t_14, q9t_15, q9t_16, hO_1_t⟩ := z9t
  obtain ⟨q1t_0, q1t_1, q1t_2, q1t_3, q1t_4, q1t_5, q1t_6, q1t_7, q1t_8, q1t_9, q1t_10, q1t_11, q1t_12⟩ := hO_1_t
  have z9v1 := hO_9_v1
  obtain ⟨q9v1_0, q9v1_1, q9v1_2, q9v1_3, q9v1_4, q9v1_5, q9v1_6, q9v1_7, q9v1_8, q9v1_9, q9v1_10, q9v1_11, q9v1_12, q9v1_13, q9v1_14, q9v1_15, q9v1_16, hO_1_v1⟩ := z9v1
  obtain ⟨q1v1_0, q1v1_1, q1v1_2, q1v1_3, q1v1_4, q1v1_5, q1v1_6, q1v1_7, q1v1_8, q1v1_9, q1v1_10, q1v1_11, q1v1_12⟩ := hO_1_v1
  intros
  simp only [f_X7_listPulls_174, g_X7_listPulls_174, rhck, ryM_1, ryM_2, ryM_3, ry_si, ry_sl, if_true, ry_ck, Option.map_some, Option.map_none, ry_ite, ry_bm, ry_mb, Nat.add_assoc, Nat.reduceAdd, Option.some_bind, Option.bind_some, q2v2_0, q2v2_1, q2v2_2, q2v2_3, q2v2_4, q7v0_0, q7v0_1, q7v0_2, q7v0_3, q7v0_4, q7v0_5, q7v0_6, q7v0_7, q7v0_8, q7v0_9, q7v0_10, q7v0_11, q7v0_12, q7v0_13, q7v0_14, q7v0_15, q7v0_16, q7v0_17, q7v0_18, q9t_0, q9t_1, q9t_2, q9t_3, q9t_4, q9t_5, q9t_6, q9t_7, q9t_8, q9t_9, q9t_10, q9t_11, q9t_12, q9t_13, q9t_14, q9t_15, q9t_16, q1t_0, q1t_1, q1t_2, q1t_3, q1t_4, q1t_5, q1t_6, q1t_7, q1t_8, q1t_9, q1t_10, q1t_11, q1t_12, q9v1_0, q9v1_1, q9v1_2, q9v1_3, q9v1_4, q9v1_5, q9v1_6, q9v1_7, q9v1_8, q9v1_9, q9v1_10, q9v1_11, q9v1_12, q9v1_13, q9v1_14, q9v1_15, q9v1_16, q1v1_0, q1v1_1, q1v1_2, q1v1_3, q1v1_4, q1v1_5, q1v1_6, q1v1_7, q1v1_8, q1v1_9, q1v1_10, q1v1_11, q1v1_12, hk31]
set_option maxHeartbeats 400000 in
set_option maxRecDepth 100000 in
theorem e_X7_listPulls_31 {Γ : rhG} {R : Nat → Nat → Nat} {t : Nat} {kn : Nat} {v0 : Nat} {v1 : Nat} {v2 : Nat} (hO_2_v2 : Sh2 Γ R v2 t kn) (hO_7_v0 : Sh7 Γ R v0) (hO_9_t : Sh9 Γ R t) (hO_9_v1 : Sh9 Γ R v1) {f180 : rhM → Nat → Nat → Nat → Int32 → Option (rhM)} {k180 : ryS → Nat → Nat → Nat → Int32 → Option (ryS)} (hk180 : ∀ (s : ryS) (v0 : Nat) (v1 : Nat) (v2 : Nat) (v3 : Int32), f180 (ryM s R) v0 v1 v2 v3 = Option.map (fun s => ryM s R) (k180 s v0 v1 v2 v3)) : ∀ (n : Nat) (s : ryS) (v3 : Int32) (v4 : Int32) (v5 : Int32) (v6 : Int32), f_X7_listPulls_31 f180 Γ n (ryM s R) v0 v1 v2 v3 v4 v5 v6 = Option.map (fun s => ryM s R) (g_X7_listPulls_31 t kn k180 n s v0 v1 v2 v3 v4 v5 v6) := by
  have z2v2 := hO_2_v2
  obtain ⟨q2v2_0, q2v2_1, q2v2_2, q2v2_3, q2v2_4⟩ := z2v2
  have z7v0 := hO_7_v0
  obtain ⟨q7v0_0, q7v0_1, q7v0_2, q7v0_3, q7v0_4, q7v0_5, q7v0_6, q7v0_7, q7v0_8, q7v0_9, q7v0_10, q7v0_11, q7v0_12, q7v0_13, q7v0_14, q7v0_15, q7v0_16, q7v0_17, q7v0_18⟩ := z7v0
  have z9t := hO_9_t
  obtain ⟨q9t_0, q9t_1, q9t_2, q9t_3, q9t_4, q9t_5, q9t_6, q9t_7, q9t_8, q9t_9, q9t_10, q9t_11, q9t_12, q9t_13, q9t_14, q9t_15, q9t_16, hO_1_t⟩ := z9t
  obtain ⟨q1t_0, q1t_1, q1t_2, q1t_3, q1t_4, q1t_5, q1t_6, q1t_7, q1t_8, q1t_9, q1t_10, q1t_11, q1t_12⟩ := hO_1_t
  have z9v1 := hO_9_v1
  obtain ⟨q9v1_0, q9v1_1, q9v1_2, q9v1_3, q9v1_4, q9v1_5, q9v1_6, q9v1_7, q9v1_8, q9v1_9, q9v1_10, q9v1_11, q9v1_12, q9v1_13, q9v1_14, q9v1_15, q9v1_16, hO_1_v1⟩ := z9v1
  obtain ⟨q1v1_0, q1v1_1, q1v1_2, q1v1_3, q1v1_4, q1v1_5, q1v1_6, q1v1_7, q1v1_8, q1v1_9, q1v1_10, q1v1_11, q1v1_12⟩ := hO_1_v1
  intro n
  induction n with
  | zero => intros; simp only [f_X7_listPulls_31, g_X7_listPulls_31, Option.map_none]
  | succ n ih =>
    intros
    simp only [f_X7_listPulls_31, g_X7_listPulls_31, rhck, ryM_1, ryM_2, ryM_3, ry_si, ry_sl, if_true, ry_ck, Option.map_some, Option.map_none, ry_ite, ry_bm, ry_mb, Nat.add_assoc, Nat.reduceAdd, Option.some_bind, Option.bind_some, q2v2_0, q2v2_1, q2v2_2, q2v2_3, q2v2_4, q7v0_0, q7v0_1, q7v0_2, q7v0_3, q7v0_4, q7v0_5, q7v0_6, q7v0_7, q7v0_8, q7v0_9, q7v0_10, q7v0_11, q7v0_12, q7v0_13, q7v0_14, q7v0_15, q7v0_16, q7v0_17, q7v0_18, q9t_0, q9t_1, q9t_2, q9t_3, q9t_4, q9t_5, q9t_6, q9t_7, q9t_8, q9t_9, q9t_10, q9t_11, q9t_12, q9t_13, q9t_14, q9t_15, q9t_16, q1t_0, q1t_1, q1t_2, q1t_3, q1t_4, q1t_5, q1t_6, q1t_7, q1t_8, q1t_9, q1t_10, q1t_11, q1t_12, q9v1_0, q9v1_1, q9v1_2, q9v1_3, q9v1_4, q9v1_5, q9v1_6, q9v1_7, q9v1_8, q9v1_9, q9v1_10, q9v1_11, q9v1_12, q9v1_13, q9v1_14, q9v1_15, q9v1_16, q1v1_0, q1v1_1, q1v1_2, q1v1_3, q1v1_4, q1v1_5, q1v1_6, q1v1_7, q1v1_8, q1v1_9, q1v1_10, q1v1_11, q1v1_12, e_X7_digitOf, hk180, e_X7_listPulls_64 hO_2_v2 hO_7_v0 hO_9_t hO_9_v1 (e_X7_listPulls_174 hO_2_v2 hO_7_v0 hO_9_t hO_9_v1 ih), e_X7_listPulls_174 hO_2_v2 hO_7_v0 hO_9_t hO_9_v1 ih, ih]
set_option maxHeartbeats 400000 in
set_option maxRecDepth 100000 in
theorem e_X7_listPulls_180 {Γ : rhG} {R : Nat → Nat → Nat} {t : Nat} {kn : Nat} {v0 : Nat} {v1 : Nat} {v2 : Nat} (hO_2_v2 : Sh2 Γ R v2 t kn) (hO_7_v0 : Sh7 Γ R v0) (hO_9_t : Sh9 Γ R t) (hO_9_v1 : Sh9 Γ R v1) {f7 : rhM → Nat → Nat → Nat → Int32 → Option (rhM)} {k7 : ryS → Nat → Nat → Nat → Int32 → Option (ryS)} (hk7 : ∀ (s : ryS) (v0 : Nat) (v1 : Nat) (v2 : Nat) (v3 : Int32), f7 (ryM s R) v0 v1 v2 v3 = Option.map (fun s => ryM s R) (k7 s v0 v1 v2 v3)) : ∀ (s : ryS) (v3 : Int32), f_X7_listPulls_180 f7 Γ (ryM s R) v0 v1 v2 v3 = Option.map (fun s => ryM s R) (g_X7_listPulls_180 t kn k7 s v0 v1 v2 v3) := by
  have z2v2 := hO_2_v2
  obtain ⟨q2v2_0, q2v2_1, q2v2_2, q2v2_3, q2v2_4⟩ := z2v2
  have z7v0 := hO_7_v0
  obtain ⟨q7v0_0, q7v0_1, q7v0_2, q7v0_3, q7v0_4, q7v0_5, q7v0_6, q7v0_7, q7v0_8, q7v0_9, q7v0_10, q7v0_11, q7v0_12, q7v0_13, q7v0_14, q7v0_15, q7v0_16, q7v0_17, q7v0_18⟩ := z7v0
  have z9t := hO_9_t
  obtain ⟨q9t_0, q9t_1, q9t_2, q9t_3, q9t_4, q9t_5, q9t_6, q9t_7, q9t_8, q9t_9, q9t_10, q9t_11, q9t_12, q9t_13, q9t_14, q9t_15, q9t_16, hO_1_t⟩ := z9t
  obtain ⟨q1t_0, q1t_1, q1t_2, q1t_3, q1t_4, q1t_5, q1t_6, q1t_7, q1t_8, q1t_9, q1t_10, q1t_11, q1t_12⟩ := hO_1_t
  have z9v1 := hO_9_v1
  obtain ⟨q9v1_0, q9v1_1, q9v1_2, q9v1_3, q9v1_4, q9v1_5, q9v1_6, q9v1_7, q9v1_8, q9v1_9, q9v1_10, q9v1_11, q9v1_12, q9v1_13, q9v1_14, q9v1_15, q9v1_16, hO_1_v1⟩ := z9v1
  obtain ⟨q1v1_0, q1v1_1, q1v1_2, q1v1_3, q1v1_4, q1v1_5, q1v1_6, q1v1_7, q1v1_8, q1v1_9, q1v1_10, q1v1_11, q1v1_12⟩ := hO_1_v1
  intros
  simp only [f_X7_listPulls_180, g_X7_listPulls_180, rhck, ryM_1, ryM_2, ryM_3, ry_si, ry_sl, if_true, ry_ck, Option.map_some, Option.map_none, ry_ite, ry_bm, ry_mb, Nat.add_assoc, Nat.reduceAdd, Option.some_bind, Option.bind_some, q2v2_0, q2v2_1, q2v2_2, q2v2_3, q2v2_4, q7v0_0, q7v0_1, q7v0_2, q7v0_3, q7v0_4, q7v0_5, q7v0_6, q7v0_7, q7v0_8, q7v0_9, q7v0_10, q7v0_11, q7v0_12, q7v0_13, q7v0_14, q7v0_15, q7v0_16, q7v0_17, q7v0_18, q9t_0, q9t_1, q9t_2, q9t_3, q9t_4, q9t_5, q9t_6, q9t_7, q9t_8, q9t_9, q9t_10, q9t_11, q9t_12, q9t_13, q9t_14, q9t_15, q9t_16, q1t_0, q1t_1, q1t_2, q1t_3, q1t_4, q1t_5, q1t_6, q1t_7, q1t_8, q1t_9, q1t_10, q1t_11, q1t_12, q9v1_0, q9v1_1, q9v1_2, q9v1_3, q9v1_4, q9v1_5, q9v1_6, q9v1_7, q9v1_8, q9v1_9, q9v1_10, q9v1_11, q9v1_12, q9v1_13, q9v1_14, q9v1_15, q9v1_16, q1v1_0, q1v1_1, q1v1_2, q1v1_3, q1v1_4, q1v1_5, q1v1_6, q1v1_7, q1v1_8, q1v1_9, q1v1_10, q1v1_11, q1v1_12, hk7]
set_option maxHeartbeats 400000 in
set_option maxRecDepth 100000 in
theorem e_X7_listPulls_7 {Γ : rhG} {R : Nat → Nat → Nat} {t : Nat} {kn : Nat} {v0 : Nat} {v1 : Nat} {v2 : Nat} (hO_2_v2 : Sh2 Γ R v2 t kn) (hO_7_v0 : Sh7 Γ R v0) (hO_9_t : Sh9 Γ R t) (hO_9_v1 : Sh9 Γ R v1) : ∀ (n : Nat) (s : ryS) (v3 : Int32), f_X7_listPulls_7 Γ n (ryM s R) v0 v1 v2 v3 = Option.map (fun s => ryM s R) (g_X7_listPulls_7 t kn n s v0 v1 v2 v3) := by
  have z2v2 := hO_2_v2
  obtain ⟨q2v2_0, q2v2_1, q2v2_2, q2v2_3, q2v2_4⟩ := z2v2
  have z7v0 := hO_7_v0
  obtain ⟨q7v0_0, q7v0_1, q7v0_2, q7v0_3, q7v0_4, q7v0_5, q7v0_6, q7v0_7, q7v0_8, q7v0_9, q7v0_10, q7v0_11, q7v0_12, q7v0_13, q7v0_14, q7v0_15, q7v0_16, q7v0_17, q7v0_18⟩ := z7v0
  have z9t := hO_9_t
  obtain ⟨q9t_0, q9t_1, q9t_2, q9t_3, q9t_4, q9t_5, q9t_6, q9t_7, q9t_8, q9t_9, q9t_10, q9t_11, q9t_12, q9t_13, q9t_14, q9t_15, q9t_16, hO_1_t⟩ := z9t
  obtain ⟨q1t_0, q1t_1, q1t_2, q1t_3, q1t_4, q1t_5, q1t_6, q1t_7, q1t_8, q1t_9, q1t_10, q1t_11, q1t_12⟩ := hO_1_t
  have z9v1 := hO_9_v1
  obtain ⟨q9v1_0, q9v1_1, q9v1_2, q9v1_3, q9v1_4, q9v1_5, q9v1_6, q9v1_7, q9v1_8, q9v1_9, q9v1_10, q9v1_11, q9v1_12, q9v1_13, q9v1_14, q9v1_15, q9v1_16, hO_1_v1⟩ := z9v1
  obtain ⟨q1v1_0, q1v1_1, q1v1_2, q1v1_3, q1v1_4, q1v1_5, q1v1_6, q1v1_7, q1v1_8, q1v1_9, q1v1_10, q1v1_11, q1v1_12⟩ := hO_1_v1
  intro n
  induction n with
  | zero => intros; simp only [f_X7_listPulls_7, g_X7_listPulls_7, Option.map_none]
  | succ n ih =>
    intros
    simp only [f_X7_listPulls_7, g_X7_listPulls_7, rhck, ryM_1, ryM_2, ryM_3, ry_si, ry_sl, if_true, ry_ck, Option.map_some, Option.map_none, ry_ite, ry_bm, ry_mb, Nat.add_assoc, Nat.reduceAdd, Option.some_bind, Option.bind_some, q2v2_0, q2v2_1, q2v2_2, q2v2_3, q2v2_4, q7v0_0, q7v0_1, q7v0_2, q7v0_3, q7v0_4, q7v0_5, q7v0_6, q7v0_7, q7v0_8, q7v0_9, q7v0_10, q7v0_11, q7v0_12, q7v0_13, q7v0_14, q7v0_15, q7v0_16, q7v0_17, q7v0_18, q9t_0, q9t_1, q9t_2, q9t_3, q9t_4, q9t_5, q9t_6, q9t_7, q9t_8, q9t_9, q9t_10, q9t_11, q9t_12, q9t_13, q9t_14, q9t_15, q9t_16, q1t_0, q1t_1, q1t_2, q1t_3, q1t_4, q1t_5, q1t_6, q1t_7, q1t_8, q1t_9, q1t_10, q1t_11, q1t_12, q9v1_0, q9v1_1, q9v1_2, q9v1_3, q9v1_4, q9v1_5, q9v1_6, q9v1_7, q9v1_8, q9v1_9, q9v1_10, q9v1_11, q9v1_12, q9v1_13, q9v1_14, q9v1_15, q9v1_16, q1v1_0, q1v1_1, q1v1_2, q1v1_3, q1v1_4, q1v1_5, q1v1_6, q1v1_7, q1v1_8, q1v1_9, q1v1_10, q1v1_11, q1v1_12, e_X7_listPulls_31 hO_2_v2 hO_7_v0 hO_9_t hO_9_v1 (e_X7_listPulls_180 hO_2_v2 hO_7_v0 hO_9_t hO_9_v1 ih), e_X7_listPulls_180 hO_2_v2 hO_7_v0 hO_9_t hO_9_v1 ih, ih]
set_option maxHeartbeats 400000 in
set_option maxRecDepth 100000 in
theorem e_X7_listPulls {Γ : rhG} {R : Nat → Nat → Nat} {t : Nat} {kn : Nat} {v0 : Nat} {v1 : Nat} {v2 : Nat} (hO_2_v2 : Sh2 Γ R v2 t kn) (hO_7_v0 : Sh7 Γ R v0) (hO_9_t : Sh9 Γ R t) (hO_9_v1 : Sh9 Γ R v1) : ∀ (s : ryS), f_X7_listPulls Γ (ryM s R) v0 v1 v2 = Option.map (fun s => ryM s R) (g_X7_listPulls t kn s v0 v1 v2) := by
  have z2v2 := hO_2_v2
  obtain ⟨q2v2_0, q2v2_1, q2v2_2, q2v2_3, q2v2_4⟩ := z2v2
  have z7v0 := hO_7_v0
  obtain ⟨q7v0_0, q7v0_1, q7v0_2, q7v0_3, q7v0_4, q7v0_5, q7v0_6, q7v0_7, q7v0_8, q7v0_9, q7v0_10, q7v0_11, q7v0_12, q7v0_13, q7v0_14, q7v0_15, q7v0_16, q7v0_17, q7v0_18⟩ := z7v0
  have z9t := hO_9_t
  obtain ⟨q9t_0, q9t_1, q9t_2, q9t_3, q9t_4, q9t_5, q9t_6, q9t_7, q9t_8, q9t_9, q9t_10, q9t_11, q9t_12, q9t_13, q9t_14, q9t_15, q9t_16, hO_1_t⟩ := z9t
  obtain ⟨q1t_0, q1t_1, q1t_2, q1t_3, q1t_4, q1t_5, q1t_6, q1t_7, q1t_8, q1t_9, q1t_10, q1t_11, q1t_12⟩ := hO_1_t
  have z9v1 := hO_9_v1
  obtain ⟨q9v1_0, q9v1_1, q9v1_2, q9v1_3, q9v1_4, q9v1_5, q9v1_6, q9v1_7, q9v1_8, q9v1_9, q9v1_10, q9v1_11, q9v1_12, q9v1_13, q9v1_14, q9v1_15, q9v1_16, hO_1_v1⟩ := z9v1
  obtain ⟨q1v1_0, q1v1_1, q1v1_2, q1v1_3, q1v1_4, q1v1_5, q1v1_6, q1v1_7, q1v1_8, q1v1_9, q1v1_10, q1v1_11, q1v1_12⟩ := hO_1_v1
  intros
  simp only [f_X7_listPulls, g_X7_listPulls, rhck, ryM_1, ryM_2, ryM_3, ry_si, ry_sl, if_true, ry_ck, Option.map_some, Option.map_none, ry_ite, ry_bm, ry_mb, Nat.add_assoc, Nat.reduceAdd, Option.some_bind, Option.bind_some, q2v2_0, q2v2_1, q2v2_2, q2v2_3, q2v2_4, q7v0_0, q7v0_1, q7v0_2, q7v0_3, q7v0_4, q7v0_5, q7v0_6, q7v0_7, q7v0_8, q7v0_9, q7v0_10, q7v0_11, q7v0_12, q7v0_13, q7v0_14, q7v0_15, q7v0_16, q7v0_17, q7v0_18, q9t_0, q9t_1, q9t_2, q9t_3, q9t_4, q9t_5, q9t_6, q9t_7, q9t_8, q9t_9, q9t_10, q9t_11, q9t_12, q9t_13, q9t_14, q9t_15, q9t_16, q1t_0, q1t_1, q1t_2, q1t_3, q1t_4, q1t_5, q1t_6, q1t_7, q1t_8, q1t_9, q1t_10, q1t_11, q1t_12, q9v1_0, q9v1_1, q9v1_2, q9v1_3, q9v1_4, q9v1_5, q9v1_6, q9v1_7, q9v1_8, q9v1_9, q9v1_10, q9v1_11, q9v1_12, q9v1_13, q9v1_14, q9v1_15, q9v1_16, q1v1_0, q1v1_1, q1v1_2, q1v1_3, q1v1_4, q1v1_5, q1v1_6, q1v1_7, q1v1_8, q1v1_9, q1v1_10, q1v1_11, q1v1_12, e_X7_listPulls_7 hO_2_v2 hO_7_v0 hO_9_t hO_9_v1]
def g_X7_look_128 (k50 : ryS → Nat → Int64 → Int32 → Int32 → Int32 → Option (ryS)) (s : ryS) (v0 : Nat) (v2 : Int64) (v4 : Int32) (v5 : Int32) (v6 : Int32) : Option (ryS) :=
    let x8 : Int32 := v6 + 1
    k50 s v0 v2 v4 v5 x8
def g_X7_look_50 (k134 : ryS → Nat → Int32 → Int32 → Option (ryS)) : Nat → ryS → Nat → Int64 → Int32 → Int32 → Int32 → Option (ryS)
  | 0, _, _, _, _, _, _ => none
  | n + 1, s, v0, v2, v4, v5, v6 =>
    if v6 < v4 then
      ((g_X7_digitOf s v2 v6).bind fun r6 =>
      if r6 < 8 then
        (rhck (0 ≤ (v5).toInt ∧ (v5).toInt < (5 : Nat)) <|
        let s7 := rysi s ((v0 + 3)) (v5 : Int32).toNatClampNeg (((s.1 ((v0 + 3)) v5.toNatClampNeg) ||| (1 <<< (r6 &&& 31))))
        g_X7_look_128 (g_X7_look_50 k134 n) s7 v0 v2 v4 v5 v6)
      else
        if (v5 + 1) < 5 then
          (rhck (0 ≤ (v5).toInt ∧ (v5).toInt < (5 : Nat)) <|
          let s9 := rysi s ((v0 + 2)) (v5 : Int32).toNatClampNeg v6
          let x10 : Int32 := v5 + 1
          rhck (0 ≤ (x10).toInt ∧ (x10).toInt < (5 : Nat)) <|
          let s11 := rysi s9 ((v0 + 1)) (x10 : Int32).toNatClampNeg ((v6 + 1))
          rhck (0 ≤ (x10).toInt ∧ (x10).toInt < (5 : Nat)) <|
          let s12 := rysi s11 ((v0 + 3)) (x10 : Int32).toNatClampNeg 0
          g_X7_look_128 (g_X7_look_50 k134 n) s12 v0 v2 v4 x10 v6)
        else
          g_X7_look_128 (g_X7_look_50 k134 n) s v0 v2 v4 v5 v6)
    else
      k134 s v0 v4 v5
def g_X7_look_134 (s : ryS) (v0 : Nat) (v4 : Int32) (v5 : Int32) : Option (ryS) :=
    rhck (0 ≤ (v5).toInt ∧ (v5).toInt < (5 : Nat)) <|
    let s13 := rysi s ((v0 + 2)) (v5 : Int32).toNatClampNeg v4
    some s13
def g_X7_look (s : ryS) (v0 : Nat) (v1 : Nat) (v2 : Int64) : Option (ryS) :=
    let s1 := rysl s v0 0 v2
    let s2 := rysi s1 v0 1 (s1.1 v1 0)
    let x3 : Int32 := if (((s2.1 v1 1) + (s2.1 v1 0)) - 1) < 0 then 0 else ((s2.1 v1 1) + (s2.1 v1 0)) - 1
    rhck (0 ≤ (0 : Int32).toInt ∧ (0 : Int32).toInt < (5 : Nat)) <|
    let s4 := rysi s2 ((v0 + 1)) (0 : Int32).toNatClampNeg 0
    rhck (0 ≤ (0 : Int32).toInt ∧ (0 : Int32).toInt < (5 : Nat)) <|
    let s5 := rysi s4 ((v0 + 3)) (0 : Int32).toNatClampNeg 0
    g_X7_look_50 (g_X7_look_134) rhFU s5 v0 v2 x3 0 0
set_option maxHeartbeats 400000 in
set_option maxRecDepth 100000 in
theorem e_X7_look_128 {Γ : rhG} {R : Nat → Nat → Nat} {v1 : Nat} {v0 : Nat} (hO_7_v0 : Sh7 Γ R v0) (hO_9_v1 : Sh9 Γ R v1) {f50 : rhM → Nat → Int64 → Int32 → Int32 → Int32 → Option (rhM)} {k50 : ryS → Nat → Int64 → Int32 → Int32 → Int32 → Option (ryS)} (hk50 : ∀ (s : ryS) (v0 : Nat) (v2 : Int64) (v4 : Int32) (v5 : Int32) (v6 : Int32), f50 (ryM s R) v0 v2 v4 v5 v6 = Option.map (fun s => ryM s R) (k50 s v0 v2 v4 v5 v6)) : ∀ (s : ryS) (v2 : Int64) (v4 : Int32) (v5 : Int32) (v6 : Int32), f_X7_look_128 f50 Γ (ryM s R) v0 v2 v4 v5 v6 = Option.map (fun s => ryM s R) (g_X7_look_128 k50 s v0 v2 v4 v5 v6) := by
  have z7v0 := hO_7_v0
  obtain ⟨q7v0_0, q7v0_1, q7v0_2, q7v0_3, q7v0_4, q7v0_5, q7v0_6, q7v0_7, q7v0_8, q7v0_9, q7v0_10, q7v0_11, q7v0_12, q7v0_13, q7v0_14, q7v0_15, q7v0_16, q7v0_17, q7v0_18⟩ := z7v0
  have z9v1 := hO_9_v1
  obtain ⟨q9v1_0, q9v1_1, q9v1_2, q9v1_3, q9v1_4, q9v1_5, q9v1_6, q9v1_7, q9v1_8, q9v1_9, q9v1_10, q9v1_11, q9v1_12, q9v1_13, q9v1_14, q9v1_15, q9v1_16, hO_1_v1⟩ := z9v1
  obtain ⟨q1v1_0, q1v1_1, q1v1_2, q1v1_3, q1v1_4, q1v1_5, q1v1_6, q1v1_7, q1v1_8, q1v1_9, q1v1_10, q1v1_11, q1v1_12⟩ := hO_1_v1
  intros
  simp only [f_X7_look_128, g_X7_look_128, rhck, ryM_1, ryM_2, ryM_3, ry_si, ry_sl, if_true, ry_ck, Option.map_some, Option.map_none, ry_ite, ry_bm, ry_mb, Nat.add_assoc, Nat.reduceAdd, Option.some_bind, Option.bind_some, q7v0_0, q7v0_1, q7v0_2, q7v0_3, q7v0_4, q7v0_5, q7v0_6, q7v0_7, q7v0_8, q7v0_9, q7v0_10, q7v0_11, q7v0_12, q7v0_13, q7v0_14, q7v0_15, q7v0_16, q7v0_17, q7v0_18, q9v1_0, q9v1_1, q9v1_2, q9v1_3, q9v1_4, q9v1_5, q9v1_6, q9v1_7, q9v1_8, q9v1_9, q9v1_10, q9v1_11, q9v1_12, q9v1_13, q9v1_14, q9v1_15, q9v1_16, q1v1_0, q1v1_1, q1v1_2, q1v1_3, q1v1_4, q1v1_5, q1v1_6, q1v1_7, q1v1_8, q1v1_9, q1v1_10, q1v1_11, q1v1_12, hk50]
set_option maxHeartbeats 400000 in
set_option maxRecDepth 100000 in
theorem e_X7_look_50 {Γ : rhG} {R : Nat → Nat → Nat} {v1 : Nat} {v0 : Nat} (hO_7_v0 : Sh7 Γ R v0) (hO_9_v1 : Sh9 Γ R v1) {f134 : rhM → Nat → Int32 → Int32 → Option (rhM)} {k134 : ryS → Nat → Int32 → Int32 → Option (ryS)} (hk134 : ∀ (s : ryS) (v0 : Nat) (v4 : Int32) (v5 : Int32), f134 (ryM s R) v0 v4 v5 = Option.map (fun s => ryM s R) (k134 s v0 v4 v5)) : ∀ (n : Nat) (s : ryS) (v2 : Int64) (v4 : Int32) (v5 : Int32) (v6 : Int32), f_X7_look_50 f134 Γ n (ryM s R) v0 v2 v4 v5 v6 = Option.map (fun s => ryM s R) (g_X7_look_50 k134 n s v0 v2 v4 v5 v6) := by
  have z7v0 := hO_7_v0
  obtain ⟨q7v0_0, q7v0_1, q7v0_2, q7v0_3, q7v0_4, q7v0_5, q7v0_6, q7v0_7, q7v0_8, q7v0_9, q7v0_10, q7v0_11, q7v0_12, q7v0_13, q7v0_14, q7v0_15, q7v0_16, q7v0_17, q7v0_18⟩ := z7v0
  have z9v1 := hO_9_v1
  obtain ⟨q9v1_0, q9v1_1, q9v1_2, q9v1_3, q9v1_4, q9v1_5, q9v1_6, q9v1_7, q9v1_8, q9v1_9, q9v1_10, q9v1_11, q9v1_12, q9v1_13, q9v1_14, q9v1_15, q9v1_16, hO_1_v1⟩ := z9v1
  obtain ⟨q1v1_0, q1v1_1, q1v1_2, q1v1_3, q1v1_4, q1v1_5, q1v1_6, q1v1_7, q1v1_8, q1v1_9, q1v1_10, q1v1_11, q1v1_12⟩ := hO_1_v1
  intro n
  induction n with
  | zero => intros; simp only [f_X7_look_50, g_X7_look_50, Option.map_none]
  | succ n ih =>
    intros
    simp only [f_X7_look_50, g_X7_look_50, rhck, ryM_1, ryM_2, ryM_3, ry_si, ry_sl, if_true, ry_ck, Option.map_some, Option.map_none, ry_ite, ry_bm, ry_mb, Nat.add_assoc, Nat.reduceAdd, Option.some_bind, Option.bind_some, q7v0_0, q7v0_1, q7v0_2, q7v0_3, q7v0_4, q7v0_5, q7v0_6, q7v0_7, q7v0_8, q7v0_9, q7v0_10, q7v0_11, q7v0_12, q7v0_13, q7v0_14, q7v0_15, q7v0_16, q7v0_17, q7v0_18, q9v1_0, q9v1_1, q9v1_2, q9v1_3, q9v1_4, q9v1_5, q9v1_6, q9v1_7, q9v1_8, q9v1_9, q9v1_10, q9v1_11, q9v1_12, q9v1_13, q9v1_14, q9v1_15, q9v1_16, q1v1_0, q1v1_1, q1v1_2, q1v1_3, q1v1_4, q1v1_5, q1v1_6, q1v1_7, q1v1_8, q1v1_9, q1v1_10, q1v1_11, q1v1_12, e_X7_digitOf, hk134, e_X7_look_128 hO_7_v0 hO_9_v1 ih, ih]
set_option maxHeartbeats 400000 in
set_option maxRecDepth 100000 in
theorem e_X7_look_134 {Γ : rhG} {R : Nat → Nat → Nat} {v1 : Nat} {v0 : Nat} (hO_7_v0 : Sh7 Γ R v0) (hO_9_v1 : Sh9 Γ R v1) : ∀ (s : ryS) (v4 : Int32) (v5 : Int32), f_X7_look_134 Γ (ryM s R) v0 v4 v5 = Option.map (fun s => ryM s R) (g_X7_look_134 s v0 v4 v5) := by
  have z7v0 := hO_7_v0
  obtain ⟨q7v0_0, q7v0_1, q7v0_2, q7v0_3, q7v0_4, q7v0_5, q7v0_6, q7v0_7, q7v0_8, q7v0_9, q7v0_10, q7v0_11, q7v0_12, q7v0_13, q7v0_14, q7v0_15, q7v0_16, q7v0_17, q7v0_18⟩ := z7v0
  have z9v1 := hO_9_v1
  obtain ⟨q9v1_0, q9v1_1, q9v1_2, q9v1_3, q9v1_4, q9v1_5, q9v1_6, q9v1_7, q9v1_8, q9v1_9, q9v1_10, q9v1_11, q9v1_12, q9v1_13, q9v1_14, q9v1_15, q9v1_16, hO_1_v1⟩ := z9v1
  obtain ⟨q1v1_0, q1v1_1, q1v1_2, q1v1_3, q1v1_4, q1v1_5, q1v1_6, q1v1_7, q1v1_8, q1v1_9, q1v1_10, q1v1_11, q1v1_12⟩ := hO_1_v1
  intros
  simp only [f_X7_look_134, g_X7_look_134, rhck, ryM_1, ryM_2, ryM_3, ry_si, ry_sl, if_true, ry_ck, Option.map_some, Option.map_none, ry_ite, ry_bm, ry_mb, Nat.add_assoc, Nat.reduceAdd, Option.some_bind, Option.bind_some, q7v0_0, q7v0_1, q7v0_2, q7v0_3, q7v0_4, q7v0_5, q7v0_6, q7v0_7, q7v0_8, q7v0_9, q7v0_10, q7v0_11, q7v0_12, q7v0_13, q7v0_14, q7v0_15, q7v0_16, q7v0_17, q7v0_18, q9v1_0, q9v1_1, q9v1_2, q9v1_3, q9v1_4, q9v1_5, q9v1_6, q9v1_7, q9v1_8, q9v1_9, q9v1_10, q9v1_11, q9v1_12, q9v1_13, q9v1_14, q9v1_15, q9v1_16, q1v1_0, q1v1_1, q1v1_2, q1v1_3, q1v1_4, q1v1_5, q1v1_6, q1v1_7, q1v1_8, q1v1_9, q1v1_10, q1v1_11, q1v1_12]
set_option maxHeartbeats 400000 in
set_option maxRecDepth 100000 in
theorem e_X7_look {Γ : rhG} {R : Nat → Nat → Nat} {v0 : Nat} {v1 : Nat} (hO_7_v0 : Sh7 Γ R v0) (hO_9_v1 : Sh9 Γ R v1) : ∀ (s : ryS) (v2 : Int64), f_X7_look Γ (ryM s R) v0 v1 v2 = Option.map (fun s => ryM s R) (g_X7_look s v0 v1 v2) := by
  have z7v0 := hO_7_v0
  obtain ⟨q7v0_0, q7v0_1, q7v0_2, q7v0_3, q7v0_4, q7v0_5, q7v0_6, q7v0_7, q7v0_8, q7v0_9, q7v0_10, q7v0_11, q7v0_12, q7v0_13, q7v0_14, q7v0_15, q7v0_16, q7v0_17, q7v0_18⟩ := z7v0
  have z9v1 := hO_9_v1
  obtain ⟨q9v1_0, q9v1_1, q9v1_2, q9v1_3, q9v1_4, q9v1_5, q9v1_6, q9v1_7, q9v1_8, q9v1_9, q9v1_10, q9v1_11, q9v1_12, q9v1_13, q9v1_14, q9v1_15, q9v1_16, hO_1_v1⟩ := z9v1
  obtain ⟨q1v1_0, q1v1_1, q1v1_2, q1v1_3, q1v1_4, q1v1_5, q1v1_6, q1v1_7, q1v1_8, q1v1_9, q1v1_10, q1v1_11, q1v1_12⟩ := hO_1_v1
  intros
  simp only [f_X7_look, g_X7_look, rhck, ryM_1, ryM_2, ryM_3, ry_si, ry_sl, if_true, ry_ck, Option.map_some, Option.map_none, ry_ite, ry_bm, ry_mb, Nat.add_assoc, Nat.reduceAdd, Option.some_bind, Option.bind_some, q7v0_0, q7v0_1, q7v0_2, q7v0_3, q7v0_4, q7v0_5, q7v0_6, q7v0_7, q7v0_8, q7v0_9, q7v0_10, q7v0_11, q7v0_12, q7v0_13, q7v0_14, q7v0_15, q7v0_16, q7v0_17, q7v0_18, q9v1_0, q9v1_1, q9v1_2, q9v1_3, q9v1_4, q9v1_5, q9v1_6, q9v1_7, q9v1_8, q9v1_9, q9v1_10, q9v1_11, q9v1_12, q9v1_13, q9v1_14, q9v1_15, q9v1_16, q1v1_0, q1v1_1, q1v1_2, q1v1_3, q1v1_4, q1v1_5, q1v1_6, q1v1_7, q1v1_8, q1v1_9, q1v1_10, q1v1_11, q1v1_12, e_X7_look_50 hO_7_v0 hO_9_v1 (e_X7_look_134 hO_7_v0 hO_9_v1), e_X7_look_134 hO_7_v0 hO_9_v1]
def g_X5_goOn_110 (t : Nat) (n : Nat) (tb : Nat) (kn : Nat) (k37 : ryS → Nat → Int32 → Int32 → Option (Int32 × ryS)) (s : ryS) (v0 : Nat) (v1 : Int32) (v2 : Int32) : Option (Int32 × ryS) :=
    let x6 : Int32 := v2 + 1
    k37 s v0 v1 x6
def g_X5_goOn_37 (t : Nat) (n : Nat) (tb : Nat) (kn : Nat) : Nat → ryS → Nat → Int32 → Int32 → Option (Int32 × ryS)
  | 0, _, _, _, _ => none
  | n + 1, s, v0, v1, v2 =>
    if v2 < (s.1 ((v0 + 1)) 5) then
      (rhck (0 ≤ (v2).toInt ∧ (v2).toInt < (32 : Nat)) <|
      (g_X0_numberOf n tb s ((v0 + 8)) (s.2 ((v0 + 5)) v2.toNatClampNeg)).bind fun r3 =>
      if r3.1 = ((-1)) then
        (rhck (0 ≤ (v2).toInt ∧ (v2).toInt < (32 : Nat)) <|
        (g_X0_add n tb r3.2 ((v0 + 8)) (r3.2.2 ((v0 + 5)) v2.toNatClampNeg) v1 (r3.2.1 ((v0 + 6)) v2.toNatClampNeg)).bind fun r4 =>
        let x5 := r4.1
        if x5 = ((-1)) then
          (g_X5_goOn_110 t n tb kn (g_X5_goOn_37 t n tb kn n) r4.2 v0 v1 v2)
        else
          (g_X5_isMet t n r4.2 v0 x5).bind fun r7 =>
          if r7.1 = 0 then
            (g_X5_goOn_110 t n tb kn (g_X5_goOn_37 t n tb kn n) r7.2 v0 v1 v2)
          else
            some ((x5, r7.2)))
      else
        g_X5_goOn_110 t n tb kn (g_X5_goOn_37 t n tb kn n) r3.2 v0 v1 v2)
    else
      some (((-1), s))
def g_X5_goOn (t : Nat) (n : Nat) (tb : Nat) (kn : Nat) (s : ryS) (v0 : Nat) (v1 : Int32) : Option (Int32 × ryS) :=
    rhck (0 ≤ (v1).toInt ∧ (v1).toInt < n) <|
    (g_X7_look s ((v0 + 1)) t (s.2 ((v0 + 9)) v1.toNatClampNeg)).bind fun r1 =>
    (g_X7_listPulls t kn r1 ((v0 + 1)) t ((v0 + 19))).bind fun r2 =>
    g_X5_goOn_37 t n tb kn rhFU r2 v0 v1 0
set_option maxHeartbeats 400000 in
set_option maxRecDepth 100000 in
theorem e_X5_goOn_110 {Γ : rhG} {R : Nat → Nat → Nat} {t : Nat} {n : Nat} {tb : Nat} {kn : Nat} {v0 : Nat} (hO_5_v0 : Sh5 Γ R v0 t n tb kn) (hO_9_t : Sh9 Γ R t) {f37 : rhM → Nat → Int32 → Int32 → Option (Int32 × rhM)} {k37 : ryS → Nat → Int32 → Int32 → Option (Int32 × ryS)} (hk37 : ∀ (s : ryS) (v0 : Nat) (v1 : Int32) (v2 : Int32), f37 (ryM s R) v0 v1 v2 = Option.map (fun q => (q.1, ryM q.2 R)) (k37 s v0 v1 v2)) : ∀ (s : ryS) (v1 : Int32) (v2 : Int32), f_X5_goOn_110 f37 Γ (ryM s R) v0 v1 v2 = Option.map (fun q => (q.1, ryM q.2 R)) (g_X5_goOn_110 t n tb kn k37 s v0 v1 v2) := by
  have z5v0 := hO_5_v0
  obtain ⟨q5v0_0, q5v0_1, q5v0_2, q5v0_3, q5v0_4, q5v0_5, hO5_7, hO5_0, hO5_10, hO5_2⟩ := z5v0
  obtain ⟨q57_0, q57_1, q57_2, q57_3, q57_4, q57_5, q57_6, q57_7, q57_8, q57_9, q57_10, q57_11, q57_12, q57_13, q57_14, q57_15, q57_16, q57_17, q57_18⟩ := hO5_7
  obtain ⟨q50_0, q50_1, q50_2, q50_3, q50_4, q50_5, q50_6, q50_7, q50_8, q50_9, q50_10, q50_11, q50_12, q50_13, q50_14, q50_15⟩ := hO5_0
  obtain ⟨q510_0, q510_1, q510_2, q510_3, q510_4, q510_5, q510_6, q510_7, q510_8, q510_9, q510_10, q510_11, q510_12⟩ := hO5_10
  obtain ⟨q52_0, q52_1, q52_2, q52_3, q52_4⟩ := hO5_2
  have z9t := hO_9_t
  obtain ⟨q9t_0, q9t_1, q9t_2, q9t_3, q9t_4, q9t_5, q9t_6, q9t_7, q9t_8, q9t_9, q9t_10, q9t_11, q9t_12, q9t_13, q9t_14, q9t_15, q9t_16, hO_1_t⟩ := z9t
  obtain ⟨q1t_0, q1t_1, q1t_2, q1t_3, q1t_4, q1t_5, q1t_6, q1t_7, q1t_8, q1t_9, q1t_10, q1t_11, q1t_12⟩ := hO_1_t
  intros
  simp only [f_X5_goOn_110, g_X5_goOn_110, rhck, ryM_1, ryM_2, ryM_3, ry_si, ry_sl, if_true, ry_ck, Option.map_some, Option.map_none, ry_ite, ry_bm, ry_mb, Nat.add_assoc, Nat.reduceAdd, Option.some_bind, Option.bind_some, q5v0_0, q5v0_1, q5v0_2, q5v0_3, q5v0_4, q5v0_5, q57_0, q57_1, q57_2, q57_3, q57_4, q57_5, q57_6, q57_7, q57_8, q57_9, q57_10, q57_11, q57_12, q57_13, q57_14, q57_15, q57_16, q57_17, q57_18, q50_0, q50_1, q50_2, q50_3, q50_4, q50_5, q50_6, q50_7, q50_8, q50_9, q50_10, q50_11, q50_12, q50_13, q50_14, q50_15, q510_0, q510_1, q510_2, q510_3, q510_4, q510_5, q510_6, q510_7, q510_8, q510_9, q510_10, q510_11, q510_12, q52_0, q52_1, q52_2, q52_3, q52_4, q9t_0, q9t_1, q9t_2, q9t_3, q9t_4, q9t_5, q9t_6, q9t_7, q9t_8, q9t_9, q9t_10, q9t_11, q9t_12, q9t_13, q9t_14, q9t_15, q9t_16, q1t_0, q1t_1, q1t_2, q1t_3, q1t_4, q1t_5, q1t_6, q1t_7, q1t_8, q1t_9, q1t_10, q1t_11, q1t_12, hk37]
set_option maxHeartbeats 400000 in
set_option maxRecDepth 100000 in
theorem e_X5_goOn_37 {Γ : rhG} {R : Nat → Nat → Nat} {t : Nat} {n : Nat} {tb : Nat} {kn : Nat} {v0 : Nat} (hO_5_v0 : Sh5 Γ R v0 t n tb kn) (hO_9_t : Sh9 Γ R t) : ∀ (n : Nat) (s : ryS) (v1 : Int32) (v2 : Int32), f_X5_goOn_37 Γ n (ryM s R) v0 v1 v2 = Option.map (fun q => (q.1, ryM q.2 R)) (g_X5_goOn_37 t n tb kn n s v0 v1 v2) := by
  have z5v0 := hO_5_v0
  obtain ⟨q5v0_0, q5v0_1, q5v0_2, q5v0_3, q5v0_4, q5v0_5, hO5_7, hO5_0, hO5_10, hO5_2⟩ := z5v0
  obtain ⟨q57_0, q57_1, q57_2, q57_3, q57_4, q57_5, q57_6, q57_7, q57_8, q57_9, q57_10, q57_11, q57_12, q57_13, q57_14, q57_15, q57_16, q57_17, q57_18⟩ := hO5_7
  obtain ⟨q50_0, q50_1, q50_2, q50_3, q50_4, q50_5, q50_6, q50_7, q50_8, q50_9, q50_10, q50_11, q50_12, q50_13, q50_14, q50_15⟩ := hO5_0
  obtain ⟨q510_0, q510_1, q510_2, q510_3, q510_4, q510_5, q510_6, q510_7, q510_8, q510_9, q510_10, q510_11, q510_12⟩ := hO5_10
  obtain ⟨q52_0, q52_1, q52_2, q52_3, q52_4⟩ := hO5_2
  have z9t := hO_9_t
  obtain ⟨q9t_0, q9t_1, q9t_2, q9t_3, q9t_4, q9t_5, q9t_6, q9t_7, q9t_8, q9t_9, q9t_10, q9t_11, q9t_12, q9t_13, q9t_14, q9t_15, q9t_16, hO_1_t⟩ := z9t
  obtain ⟨q1t_0, q1t_1, q1t_2, q1t_3, q1t_4, q1t_5, q1t_6, q1t_7, q1t_8, q1t_9, q1t_10, q1t_11, q1t_12⟩ := hO_1_t
  intro n
  induction n with
  | zero => intros; simp only [f_X5_goOn_37, g_X5_goOn_37, Option.map_none]
  | succ n ih =>
    intros
    simp only [f_X5_goOn_37, g_X5_goOn_37, rhck, ryM_1, ryM_2, ryM_3, ry_si, ry_sl, if_true, ry_ck, Option.map_some, Option.map_none, ry_ite, ry_bm, ry_mb, Nat.add_assoc, Nat.reduceAdd, Option.some_bind, Option.bind_some, q5v0_0, q5v0_1, q5v0_2, q5v0_3, q5v0_4, q5v0_5, q57_0, q57_1, q57_2, q57_3, q57_4, q57_5, q57_6, q57_7, q57_8, q57_9, q57_10, q57_11, q57_12, q57_13, q57_14, q57_15, q57_16, q57_17, q57_18, q50_0, q50_1, q50_2, q50_3, q50_4, q50_5, q50_6, q50_7, q50_8, q50_9, q50_10, q50_11, q50_12, q50_13, q50_14, q50_15, q510_0, q510_1, q510_2, q510_3, q510_4, q510_5, q510_6, q510_7, q510_8, q510_9, q510_10, q510_11, q510_12, q52_0, q52_1, q52_2, q52_3, q52_4, q9t_0, q9t_1, q9t_2, q9t_3, q9t_4, q9t_5, q9t_6, q9t_7, q9t_8, q9t_9, q9t_10, q9t_11, q9t_12, q9t_13, q9t_14, q9t_15, q9t_16, q1t_0, q1t_1, q1t_2, q1t_3, q1t_4, q1t_5, q1t_6, q1t_7, q1t_8, q1t_9, q1t_10, q1t_11, q1t_12, e_X0_numberOf (sh5_0 hO_5_v0), e_X0_add (sh5_0 hO_5_v0), e_X5_isMet hO_5_v0 hO_9_t, e_X5_goOn_110 hO_5_v0 hO_9_t ih, ih]
set_option maxHeartbeats 400000 in
set_option maxRecDepth 100000 in
theorem e_X5_goOn {Γ : rhG} {R : Nat → Nat → Nat} {t : Nat} {n : Nat} {tb : Nat} {kn : Nat} {v0 : Nat} (hO_5_v0 : Sh5 Γ R v0 t n tb kn) (hO_9_t : Sh9 Γ R t) : ∀ (s : ryS) (v1 : Int32), f_X5_goOn Γ (ryM s R) v0 v1 = Option.map (fun q => (q.1, ryM q.2 R)) (g_X5_goOn t n tb kn s v0 v1) := by
  have z5v0 := hO_5_v0
  obtain ⟨q5v0_0, q5v0_1, q5v0_2, q5v0_3, q5v0_4, q5v0_5, hO5_7, hO5_0, hO5_10, hO5_2⟩ := z5v0
  obtain ⟨q57_0, q57_1, q57_2, q57_3, q57_4, q57_5, q57_6, q57_7, q57_8, q57_9, q57_10, q57_11, q57_12, q57_13, q57_14, q57_15, q57_16, q57_17, q57_18⟩ := hO5_7
  obtain ⟨q50_0, q50_1, q50_2, q50_3, q50_4, q50_5, q50_6, q50_7, q50_8, q50_9, q50_10, q50_11, q50_12, q50_13, q50_14, q50_15⟩ := hO5_0
  obtain ⟨q510_0, q510_1, q510_2, q510_3, q510_4, q510_5, q510_6, q510_7, q510_8, q510_9, q510_10, q510_11, q510_12⟩ := hO5_10
  obtain ⟨q52_0, q52_1, q52_2, q52_3, q52_4⟩ := hO5_2
  have z9t := hO_9_t
  obtain ⟨q9t_0, q9t_1, q9t_2, q9t_3, q9t_4, q9t_5, q9t_6, q9t_7, q9t_8, q9t_9, q9t_10, q9t_11, q9t_12, q9t_13, q9t_14, q9t_15, q9t_16, hO_1_t⟩ := z9t
  obtain ⟨q1t_0, q1t_1, q1t_2, q1t_3, q1t_4, q1t_5, q1t_6, q1t_7, q1t_8, q1t_9, q1t_10, q1t_11, q1t_12⟩ := hO_1_t
  intros
  simp only [f_X5_goOn, g_X5_goOn, rhck, ryM_1, ryM_2, ryM_3, ry_si, ry_sl, if_true, ry_ck, Option.map_some, Option.map_none, ry_ite, ry_bm, ry_mb, Nat.add_assoc, Nat.reduceAdd, Option.some_bind, Option.bind_some, q5v0_0, q5v0_1, q5v0_2, q5v0_3, q5v0_4, q5v0_5, q57_0, q57_1, q57_2, q57_3, q57_4, q57_5, q57_6, q57_7, q57_8, q57_9, q57_10, q57_11, q57_12, q57_13, q57_14, q57_15, q57_16, q57_17, q57_18, q50_0, q50_1, q50_2, q50_3, q50_4, q50_5, q50_6, q50_7, q50_8, q50_9, q50_10, q50_11, q50_12, q50_13, q50_14, q50_15, q510_0, q510_1, q510_2, q510_3, q510_4, q510_5, q510_6, q510_7, q510_8, q510_9, q510_10, q510_11, q510_12, q52_0, q52_1, q52_2, q52_3, q52_4, q9t_0, q9t_1, q9t_2, q9t_3, q9t_4, q9t_5, q9t_6, q9t_7, q9t_8, q9t_9, q9t_10, q9t_11, q9t_12, q9t_13, q9t_14, q9t_15, q9t_16, q1t_0, q1t_1, q1t_2, q1t_3, q1t_4, q1t_5, q1t_6, q1t_7, q1t_8, q1t_9, q1t_10, q1t_11, q1t_12, e_X7_look (sh5_7 hO_5_v0) hO_9_t, e_X7_listPulls (sh5_2 hO_5_v0) (sh5_7 hO_5_v0) hO_9_t hO_9_t, e_X5_goOn_37 hO_5_v0 hO_9_t]
def g_X5_isBetter (n : Nat) (s : ryS) (v0 : Nat) (v1 : Int32) (v2 : Int32) (v3 : Int32) : Option (Int32) :=
    rhck (0 ≤ (v1).toInt ∧ (v1).toInt < n) <|
    if v3 = (s.1 ((v0 + 16)) v1.toNatClampNeg) then
      (rhck (0 ≤ (v1).toInt ∧ (v1).toInt < n) <|
      (g_X5_leadsAhead n s v0 v2 (s.1 ((v0 + 10)) v1.toNatClampNeg)).bind fun r1 =>
      rhck (r1 = 0 ∨ r1 = 1) <|
      some r1)
    else
      if v3 < (s.1 ((v0 + 16)) v1.toNatClampNeg) then
        (some 1)
      else
        some 0
set_option maxHeartbeats 400000 in
set_option maxRecDepth 100000 in
theorem e_X5_isBetter {Γ : rhG} {R : Nat → Nat → Nat} {n : Nat} {v0 : Nat} (hO_5_v0 : Sh5 Γ R v0 t n tb kn) {s : ryS} : ∀ (v1 : Int32) (v2 : Int32) (v3 : Int32), f_X5_isBetter Γ (ryM s R) v0 v1 v2 v3 = g_X5_isBetter n s v0 v1 v2 v3 := by
  have z5v0 := hO_5_v0
  obtain ⟨q5v0_0, q5v0_1, q5v0_2, q5v0_3, q5v0_4, q5v0_5, hO5_7, hO5_0, hO5_10, hO5_2⟩ := z5v0
  obtain ⟨q57_0, q57_1, q57_2, q57_3, q57_4, q57_5, q57_6, q57_7, q57_8, q57_9, q57_10, q57_11, q57_12, q57_13, q57_14, q57_15, q57_16, q57_17, q57_18⟩ := hO5_7
  obtain ⟨q50_0, q50_1, q50_2, q50_3, q50_4, q50_5, q50_6, q50_7, q50_8, q50_9, q50_10, q50_11, q50_12, q50_13, q50_14, q50_15⟩ := hO5_0
  obtain ⟨q510_0, q510_1, q510_2, q510_3, q510_4, q510_5, q510_6, q510_7, q510_8, q510_9, q510_10, q510_11, q510_12⟩ := hO5_10
  obtain ⟨q52_0, q52_1, q52_2, q52_3, q52_4⟩ := hO5_2
  intros
  simp only [f_X5_isBetter, g_X5_isBetter, rhck, ryM_1, ryM_2, ryM_3, ry_si, ry_sl, if_true, ry_ck, Option.map_some, Option.map_none, ry_ite, ry_bm, ry_mb, Nat.add_assoc, Nat.reduceAdd, Option.some_bind, Option.bind_some, q5v0_0, q5v0_1, q5v0_2, q5v0_3, q5v0_4, q5v0_5, q57_0, q57_1, q57_2, q57_3, q57_4, q57_5, q57_6, q57_7, q57_8, q57_9, q57_10, q57_11, q57_12, q57_13, q57_14, q57_15, q57_16, q57_17, q57_18, q50_0, q50_1, q50_2, q50_3, q50_4, q50_5, q50_6, q50_7, q50_8, q50_9, q50_10, q50_11, q50_12, q50_13, q50_14, q50_15, q510_0, q510_1, q510_2, q510_3, q510_4, q510_5, q510_6, q510_7, q510_8, q510_9, q510_10, q510_11, q510_12, q52_0, q52_1, q52_2, q52_3, q52_4, e_X5_leadsAhead hO_5_v0]
def g_X5_pullsTo (n : Nat) (s : ryS) (v0 : Nat) (v1 : Int32) : Option (Int32) :=
    rhck (0 ≤ (v1).toInt ∧ (v1).toInt < n) <|
    some (s.1 ((v0 + 12)) v1.toNatClampNeg)
set_option maxHeartbeats 400000 in
set_option maxRecDepth 100000 in
theorem e_X5_pullsTo {Γ : rhG} {R : Nat → Nat → Nat} {n : Nat} {v0 : Nat} (hO_5_v0 : Sh5 Γ R v0 t n tb kn) {s : ryS} : ∀ (v1 : Int32), f_X5_pullsTo Γ (ryM s R) v0 v1 = g_X5_pullsTo n s v0 v1 := by
  have z5v0 := hO_5_v0
  obtain ⟨q5v0_0, q5v0_1, q5v0_2, q5v0_3, q5v0_4, q5v0_5, hO5_7, hO5_0, hO5_10, hO5_2⟩ := z5v0
  obtain ⟨q57_0, q57_1, q57_2, q57_3, q57_4, q57_5, q57_6, q57_7, q57_8, q57_9, q57_10, q57_11, q57_12, q57_13, q57_14, q57_15, q57_16, q57_17, q57_18⟩ := hO5_7
  obtain ⟨q50_0, q50_1, q50_2, q50_3, q50_4, q50_5, q50_6, q50_7, q50_8, q50_9, q50_10, q50_11, q50_12, q50_13, q50_14, q50_15⟩ := hO5_0
  obtain ⟨q510_0, q510_1, q510_2, q510_3, q510_4, q510_5, q510_6, q510_7, q510_8, q510_9, q510_10, q510_11, q510_12⟩ := hO5_10
  obtain ⟨q52_0, q52_1, q52_2, q52_3, q52_4⟩ := hO5_2
  intros
  simp only [f_X5_pullsTo, g_X5_pullsTo, rhck, ryM_1, ryM_2, ryM_3, ry_si, ry_sl, if_true, ry_ck, Option.map_some, Option.map_none, ry_ite, ry_bm, ry_mb, Nat.add_assoc, Nat.reduceAdd, Option.some_bind, Option.bind_some, q5v0_0, q5v0_1, q5v0_2, q5v0_3, q5v0_4, q5v0_5, q57_0, q57_1, q57_2, q57_3, q57_4, q57_5, q57_6, q57_7, q57_8, q57_9, q57_10, q57_11, q57_12, q57_13, q57_14, q57_15, q57_16, q57_17, q57_18, q50_0, q50_1, q50_2, q50_3, q50_4, q50_5, q50_6, q50_7, q50_8, q50_9, q50_10, q50_11, q50_12, q50_13, q50_14, q50_15, q510_0, q510_1, q510_2, q510_3, q510_4, q510_5, q510_6, q510_7, q510_8, q510_9, q510_10, q510_11, q510_12, q52_0, q52_1, q52_2, q52_3, q52_4]
def g_X5_seekAlone (s : ryS) (v0 : Nat) (v1 : Int32) : Option (ryS) :=
    let s1 := rysi s v0 7 1
    let s2 := rysi s1 v0 10 v1
    some s2
set_option maxHeartbeats 400000 in
set_option maxRecDepth 100000 in
theorem e_X5_seekAlone {Γ : rhG} {R : Nat → Nat → Nat} {v0 : Nat} (hO_5_v0 : Sh5 Γ R v0 t n tb kn) : ∀ (s : ryS) (v1 : Int32), f_X5_seekAlone Γ (ryM s R) v0 v1 = Option.map (fun s => ryM s R) (g_X5_seekAlone s v0 v1) := by
  have z5v0 := hO_5_v0
  obtain ⟨q5v0_0, q5v0_1, q5v0_2, q5v0_3, q5v0_4, q5v0_5, hO5_7, hO5_0, hO5_10, hO5_2⟩ := z5v0
  obtain ⟨q57_0, q57_1, q57_2, q57_3, q57_4, q57_5, q57_6, q57_7, q57_8, q57_9, q57_10, q57_11, q57_12, q57_13, q57_14, q57_15, q57_16, q57_17, q57_18⟩ := hO5_7
  obtain ⟨q50_0, q50_1, q50_2, q50_3, q50_4, q50_5, q50_6, q50_7, q50_8, q50_9, q50_10, q50_11, q50_12, q50_13, q50_14, q50_15⟩ := hO5_0
  obtain ⟨q510_0, q510_1, q510_2, q510_3, q510_4, q510_5, q510_6, q510_7, q510_8, q510_9, q510_10, q510_11, q510_12⟩ := hO5_10
  obtain ⟨q52_0, q52_1, q52_2, q52_3, q52_4⟩ := hO5_2
  intros
  simp only [f_X5_seekAlone, g_X5_seekAlone, rhck, ryM_1, ryM_2, ryM_3, ry_si, ry_sl, if_true, ry_ck, Option.map_some, Option.map_none, ry_ite, ry_bm, ry_mb, Nat.add_assoc, Nat.reduceAdd, Option.some_bind, Option.bind_some, q5v0_0, q5v0_1, q5v0_2, q5v0_3, q5v0_4, q5v0_5, q57_0, q57_1, q57_2, q57_3, q57_4, q57_5, q57_6, q57_7, q57_8, q57_9, q57_10, q57_11, q57_12, q57_13, q57_14, q57_15, q57_16, q57_17, q57_18, q50_0, q50_1, q50_2, q50_3, q50_4, q50_5, q50_6, q50_7, q50_8, q50_9, q50_10, q50_11, q50_12, q50_13, q50_14, q50_15, q510_0, q510_1, q510_2, q510_3, q510_4, q510_5, q510_6, q510_7, q510_8, q510_9, q510_10, q510_11, q510_12, q52_0, q52_1, q52_2, q52_3, q52_4]
def g_X5_seekRow (s : ryS) (v0 : Nat) (v1 : Int64) (v3 : Int32) : Option (ryS) :=
    let s1 := rysi s v0 7 0
    let s2 := rysl s1 v0 8 v1
    (g_X7_ones s2 v3).bind fun r3 =>
    let s4 := rysl s2 v0 9 r3
    some s4
set_option maxHeartbeats 400000 in
set_option maxRecDepth 100000 in
theorem e_X5_seekRow {Γ : rhG} {R : Nat → Nat → Nat} {v0 : Nat} (hO_5_v0 : Sh5 Γ R v0 t n tb kn) : ∀ (s : ryS) (v1 : Int64) (v3 : Int32), f_X5_seekRow Γ (ryM s R) v0 v1 v3 = Option.map (fun s => ryM s R) (g_X5_seekRow s v0 v1 v3) := by
  have z5v0 := hO_5_v0
  obtain ⟨q5v0_0, q5v0_1, q5v0_2, q5v0_3, q5v0_4, q5v0_5, hO5_7, hO5_0, hO5_10, hO5_2⟩ := z5v0
  obtain ⟨q57_0, q57_1, q57_2, q57_3, q57_4, q57_5, q57_6, q57_7, q57_8, q57_9, q57_10, q57_11, q57_12, q57_13, q57_14, q57_15, q57_16, q57_17, q57_18⟩ := hO5_7
  obtain ⟨q50_0, q50_1, q50_2, q50_3, q50_4, q50_5, q50_6, q50_7, q50_8, q50_9, q50_10, q50_11, q50_12, q50_13, q50_14, q50_15⟩ := hO5_0
  obtain ⟨q510_0, q510_1, q510_2, q510_3, q510_4, q510_5, q510_6, q510_7, q510_8, q510_9, q510_10, q510_11, q510_12⟩ := hO5_10
  obtain ⟨q52_0, q52_1, q52_2, q52_3, q52_4⟩ := hO5_2
  intros
  simp only [f_X5_seekRow, g_X5_seekRow, rhck, ryM_1, ryM_2, ryM_3, ry_si, ry_sl, if_true, ry_ck, Option.map_some, Option.map_none, ry_ite, ry_bm, ry_mb, Nat.add_assoc, Nat.reduceAdd, Option.some_bind, Option.bind_some, q5v0_0, q5v0_1, q5v0_2, q5v0_3, q5v0_4, q5v0_5, q57_0, q57_1, q57_2, q57_3, q57_4, q57_5, q57_6, q57_7, q57_8, q57_9, q57_10, q57_11, q57_12, q57_13, q57_14, q57_15, q57_16, q57_17, q57_18, q50_0, q50_1, q50_2, q50_3, q50_4, q50_5, q50_6, q50_7, q50_8, q50_9, q50_10, q50_11, q50_12, q50_13, q50_14, q50_15, q510_0, q510_1, q510_2, q510_3, q510_4, q510_5, q510_6, q510_7, q510_8, q510_9, q510_10, q510_11, q510_12, q52_0, q52_1, q52_2, q52_3, q52_4, e_X7_ones]
def g_X5_seekWorth (s : ryS) (v0 : Nat) : Option (ryS) :=
    let s1 := rysi s v0 7 2
    some s1
set_option maxHeartbeats 400000 in
set_option maxRecDepth 100000 in
theorem e_X5_seekWorth {Γ : rhG} {R : Nat → Nat → Nat} {v0 : Nat} (hO_5_v0 : Sh5 Γ R v0 t n tb kn) : ∀ (s : ryS), f_X5_seekWorth Γ (ryM s R) v0 = Option.map (fun s => ryM s R) (g_X5_seekWorth s v0) := by
  have z5v0 := hO_5_v0
  obtain ⟨q5v0_0, q5v0_1, q5v0_2, q5v0_3, q5v0_4, q5v0_5, hO5_7, hO5_0, hO5_10, hO5_2⟩ := z5v0
  obtain ⟨q57_0, q57_1, q57_2, q57_3, q57_4, q57_5, q57_6, q57_7, q57_8, q57_9, q57_10, q57_11, q57_12, q57_13, q57_14, q57_15, q57_16, q57_17, q57_18⟩ := hO5_7
  obtain ⟨q50_0, q50_1, q50_2, q50_3, q50_4, q50_5, q50_6, q50_7, q50_8, q50_9, q50_10, q50_11, q50_12, q50_13, q50_14, q50_15⟩ := hO5_0
  obtain ⟨q510_0, q510_1, q510_2, q510_3, q510_4, q510_5, q510_6, q510_7, q510_8, q510_9, q510_10, q510_11, q510_12⟩ := hO5_10
  obtain ⟨q52_0, q52_1, q52_2, q52_3, q52_4⟩ := hO5_2
  intros
  simp only [f_X5_seekWorth, g_X5_seekWorth, rhck, ryM_1, ryM_2, ryM_3, ry_si, ry_sl, if_true, ry_ck, Option.map_some, Option.map_none, ry_ite, ry_bm, ry_mb, Nat.add_assoc, Nat.reduceAdd, Option.some_bind, Option.bind_some, q5v0_0, q5v0_1, q5v0_2, q5v0_3, q5v0_4, q5v0_5, q57_0, q57_1, q57_2, q57_3, q57_4, q57_5, q57_6, q57_7, q57_8, q57_9, q57_10, q57_11, q57_12, q57_13, q57_14, q57_15, q57_16, q57_17, q57_18, q50_0, q50_1, q50_2, q50_3, q50_4, q50_5, q50_6, q50_7, q50_8, q50_9, q50_10, q50_11, q50_12, q50_13, q50_14, q50_15, q510_0, q510_1, q510_2, q510_3, q510_4, q510_5, q510_6, q510_7, q510_8, q510_9, q510_10, q510_11, q510_12, q52_0, q52_1, q52_2, q52_3, q52_4]
def g_X10_begin (s : ryS) (v0 : Nat) : Option (ryS) :=
    let s1 := rysi s v0 0 0
    (g_J7_fill_53178 (1024 : Nat) s1 ((v0 + 1)) ((-1) : Int32)).bind fun r2 =>
    some r2
set_option maxHeartbeats 400000 in
set_option maxRecDepth 100000 in
theorem e_X10_begin {Γ : rhG} {R : Nat → Nat → Nat} {v0 : Nat} (hO_10_v0 : Sh10 Γ R v0 n) : ∀ (s : ryS), f_X10_begin Γ (ryM s R) v0 = Option.map (fun s => ryM s R) (g_X10_begin s v0) := by
  have z10v0 := hO_10_v0
  obtain ⟨q10v0_0, q10v0_1, q10v0_2, q10v0_3, q10v0_4, q10v0_5, q10v0_6, q10v0_7, q10v0_8, q10v0_9, q10v0_10, q10v0_11, q10v0_12⟩ := z10v0
  intros
  simp only [f_X10_begin, g_X10_begin, rhck, ryM_1, ryM_2, ryM_3, ry_si, ry_sl, if_true, ry_ck, Option.map_some, Option.map_none, ry_ite, ry_bm, ry_mb, Nat.add_assoc, Nat.reduceAdd, Option.some_bind, Option.bind_some, q10v0_0, q10v0_1, q10v0_2, q10v0_3, q10v0_4, q10v0_5, q10v0_6, q10v0_7, q10v0_8, q10v0_9, q10v0_10, q10v0_11, q10v0_12, e_J7_fill_53178 ⟨by assumption, by assumption⟩]
def g_X10_drop_57 (n : Nat) (s : ryS) (v0 : Nat) : Option (ryS) :=
    let s4 := rysi s v0 0 ((s.1 v0 0) - 1)
    some s4
def g_X10_drop_45 (n : Nat) (s : ryS) (v0 : Nat) (v2 : Int32) (v3 : Int32) : Option (ryS) :=
    if v3 = ((-1)) then
      (g_X10_drop_57 n s v0)
    else
      rhck (0 ≤ (v3).toInt ∧ (v3).toInt < n) <|
      let s5 := rysi s ((v0 + 4)) (v3 : Int32).toNatClampNeg v2
      g_X10_drop_57 n s5 v0
def g_X10_drop (n : Nat) (s : ryS) (v0 : Nat) (v1 : Int32) : Option (ryS) :=
    rhck (0 ≤ (v1).toInt ∧ (v1).toInt < n) <|
    let x1 := s.1 ((v0 + 4)) v1.toNatClampNeg
    rhck (0 ≤ (v1).toInt ∧ (v1).toInt < n) <|
    let x2 := s.1 ((v0 + 3)) v1.toNatClampNeg
    if x1 = ((-1)) then
      (rhck (0 ≤ (v1).toInt ∧ (v1).toInt < n) <|
      rhck (0 ≤ ((s.1 ((v0 + 2)) v1.toNatClampNeg) &&& 1023).toInt ∧ ((s.1 ((v0 + 2)) v1.toNatClampNeg) &&& 1023).toInt < (1024 : Nat)) <|
      let s3 := rysi s ((v0 + 1)) ((s.1 ((v0 + 2)) v1.toNatClampNeg) &&& 1023 : Int32).toNatClampNeg x2
      g_X10_drop_45 n s3 v0 x1 x2)
    else
      rhck (0 ≤ (x1).toInt ∧ (x1).toInt < n) <|
      let s6 := rysi s ((v0 + 3)) (x1 : Int32).toNatClampNeg x2
      g_X10_drop_45 n s6 v0 x1 x2
set_option maxHeartbeats 400000 in
set_option maxRecDepth 100000 in
theorem e_X10_drop_57 {Γ : rhG} {R : Nat → Nat → Nat} {n : Nat} {v0 : Nat} (hO_10_v0 : Sh10 Γ R v0 n) : ∀ (s : ryS), f_X10_drop_57 Γ (ryM s R) v0 = Option.map (fun s => ryM s R) (g_X10_drop_57 n s v0) := by
  have z10v0 := hO_10_v0
  obtain ⟨q10v0_0, q10v0_1, q10v0_2, q10v0_3, q10v0_4, q10v0_5, q10v0_6, q10v0_7, q10v0_8, q10v0_9, q10v0_10, q10v0_11, q10v0_12⟩ := z10v0
  intros
  simp only [f_X10_drop_57, g_X10_drop_57, rhck, ryM_1, ryM_2, ryM_3, ry_si, ry_sl, if_true, ry_ck, Option.map_some, Option.map_none, ry_ite, ry_bm, ry_mb, Nat.add_assoc, Nat.reduceAdd, Option.some_bind, Option.bind_some, q10v0_0, q10v0_1, q10v0_2, q10v0_3, q10v0_4, q10v0_5, q10v0_6, q10v0_7, q10v0_8, q10v0_9, q10v0_10, q10v0_11, q10v0_12]
set_option maxHeartbeats 400000 in
set_option maxRecDepth 100000 in
theorem e_X10_drop_45 {Γ : rhG} {R : Nat → Nat → Nat} {n : Nat} {v0 : Nat} (hO_10_v0 : Sh10 Γ R v0 n) : ∀ (s : ryS) (v2 : Int32) (v3 : Int32), f_X10_drop_45 Γ (ryM s R) v0 v2 v3 = Option.map (fun s => ryM s R) (g_X10_drop_45 n s v0 v2 v3) := by
  have z10v0 := hO_10_v0
  obtain ⟨q10v0_0, q10v0_1, q10v0_2, q10v0_3, q10v0_4, q10v0_5, q10v0_6, q10v0_7, q10v0_8, q10v0_9, q10v0_10, q10v0_11, q10v0_12⟩ := z10v0
  intros
  simp only [f_X10_drop_45, g_X10_drop_45, rhck, ryM_1, ryM_2, ryM_3, ry_si, ry_sl, if_true, ry_ck, Option.map_some, Option.map_none, ry_ite, ry_bm, ry_mb, Nat.add_assoc, Nat.reduceAdd, Option.some_bind, Option.bind_some, q10v0_0, q10v0_1, q10v0_2, q10v0_3, q10v0_4, q10v0_5, q10v0_6, q10v0_7, q10v0_8, q10v0_9, q10v0_10, q10v0_11, q10v0_12, e_X10_drop_57 hO_10_v0]
set_option maxHeartbeats 400000 in
set_option maxRecDepth 100000 in
theorem e_X10_drop {Γ : rhG} {R : Nat → Nat → Nat} {n : Nat} {v0 : Nat} (hO_10_v0 : Sh10 Γ R v0 n) : ∀ (s : ryS) (v1 : Int32), f_X10_drop Γ (ryM s R) v0 v1 = Option.map (fun s => ryM s R) (g_X10_drop n s v0 v1) := by
  have z10v0 := hO_10_v0
  obtain ⟨q10v0_0, q10v0_1, q10v0_2, q10v0_3, q10v0_4, q10v0_5, q10v0_6, q10v0_7, q10v0_8, q10v0_9, q10v0_10, q10v0_11, q10v0_12⟩ := z10v0
  intros
  simp only [f_X10_drop, g_X10_drop, rhck, ryM_1, ryM_2, ryM_3, ry_si, ry_sl, if_true, ry_ck, Option.map_some, Option.map_none, ry_ite, ry_bm, ry_mb, Nat.add_assoc, Nat.reduceAdd, Option.some_bind, Option.bind_some, q10v0_0, q10v0_1, q10v0_2, q10v0_3, q10v0_4, q10v0_5, q10v0_6, q10v0_7, q10v0_8, q10v0_9, q10v0_10, q10v0_11, q10v0_12, e_X10_drop_45 hO_10_v0]
def g_X10_put_54 (n : Nat) (s : ryS) (v0 : Nat) (v1 : Int32) (v3 : Int32) : Option (ryS) :=
    rhck (0 ≤ (v3).toInt ∧ (v3).toInt < (1024 : Nat)) <|
    let s5 := rysi s ((v0 + 1)) (v3 : Int32).toNatClampNeg v1
    let s6 := rysi s5 v0 0 ((s5.1 v0 0) + 1)
    some s6
def g_X10_put (n : Nat) (s : ryS) (v0 : Nat) (v1 : Int32) (v2 : Int32) : Option (ryS) :=
    let x1 := v2 &&& 1023
    rhck (0 ≤ (v1).toInt ∧ (v1).toInt < n) <|
    let s2 := rysi s ((v0 + 2)) (v1 : Int32).toNatClampNeg v2
    rhck (0 ≤ (v1).toInt ∧ (v1).toInt < n) <|
    let s3 := rysi s2 ((v0 + 4)) (v1 : Int32).toNatClampNeg (((-1)))
    rhck (0 ≤ (x1).toInt ∧ (x1).toInt < (1024 : Nat)) <|
    rhck (0 ≤ (v1).toInt ∧ (v1).toInt < n) <|
    let s4 := rysi s3 ((v0 + 3)) (v1 : Int32).toNatClampNeg ((s3.1 ((v0 + 1)) x1.toNatClampNeg))
    if (s4.1 ((v0 + 1)) x1.toNatClampNeg) = ((-1)) then
      (g_X10_put_54 n s4 v0 v1 x1)
    else
      rhck (0 ≤ (s4.1 ((v0 + 1)) x1.toNatClampNeg).toInt ∧ (s4.1 ((v0 + 1)) x1.toNatClampNeg).toInt < n) <|
      let s7 := rysi s4 ((v0 + 4)) (s4.1 ((v0 + 1)) x1.toNatClampNeg : Int32).toNatClampNeg v1
      g_X10_put_54 n s7 v0 v1 x1
set_option maxHeartbeats 400000 in
set_option maxRecDepth 100000 in
theorem e_X10_put_54 {Γ : rhG} {R : Nat → Nat → Nat} {n : Nat} {v0 : Nat} (hO_10_v0 : Sh10 Γ R v0 n) : ∀ (s : ryS) (v1 : Int32) (v3 : Int32), f_X10_put_54 Γ (ryM s R) v0 v1 v3 = Option.map (fun s => ryM s R) (g_X10_put_54 n s v0 v1 v3) := by
  have z10v0 := hO_10_v0
  obtain ⟨q10v0_0, q10v0_1, q10v0_2, q10v0_3, q10v0_4, q10v0_5, q10v0_6, q10v0_7, q10v0_8, q10v0_9, q10v0_10, q10v0_11, q10v0_12⟩ := z10v0
  intros
  simp only [f_X10_put_54, g_X10_put_54, rhck, ryM_1, ryM_2, ryM_3, ry_si, ry_sl, if_true, ry_ck, Option.map_some, Option.map_none, ry_ite, ry_bm, ry_mb, Nat.add_assoc, Nat.reduceAdd, Option.some_bind, Option.bind_some, q10v0_0, q10v0_1, q10v0_2, q10v0_3, q10v0_4, q10v0_5, q10v0_6, q10v0_7, q10v0_8, q10v0_9, q10v0_10, q10v0_11, q10v0_12]
set_option maxHeartbeats 400000 in
set_option maxRecDepth 100000 in
theorem e_X10_put {Γ : rhG} {R : Nat → Nat → Nat} {n : Nat} {v0 : Nat} (hO_10_v0 : Sh10 Γ R v0 n) : ∀ (s : ryS) (v1 : Int32) (v2 : Int32), f_X10_put Γ (ryM s R) v0 v1 v2 = Option.map (fun s => ryM s R) (g_X10_put n s v0 v1 v2) := by
  have z10v0 := hO_10_v0
  obtain ⟨q10v0_0, q10v0_1, q10v0_2, q10v0_3, q10v0_4, q10v0_5, q10v0_6, q10v0_7, q10v0_8, q10v0_9, q10v0_10, q10v0_11, q10v0_12⟩ := z10v0
  intros
  simp only [f_X10_put, g_X10_put, rhck, ryM_1, ryM_2, ryM_3, ry_si, ry_sl, if_true, ry_ck, Option.map_some, Option.map_none, ry_ite, ry_bm, ry_mb, Nat.add_assoc, Nat.reduceAdd, Option.some_bind, Option.bind_some, q10v0_0, q10v0_1, q10v0_2, q10v0_3, q10v0_4, q10v0_5, q10v0_6, q10v0_7, q10v0_8, q10v0_9, q10v0_10, q10v0_11, q10v0_12, e_X10_put_54 hO_10_v0]
def g_X5_weighOn_188 (t : Nat) (n : Nat) (tb : Nat) (kn : Nat) (k37 : ryS → Nat → Int32 → Int32 → Option (ryS)) (s : ryS) (v0 : Nat) (v1 : Int32) (v2 : Int32) : Option (ryS) :=
    let x8 : Int32 := v2 + 1
    k37 s v0 v1 x8
def g_X5_weighOn_37 (t : Nat) (n : Nat) (tb : Nat) (kn : Nat) : Nat → ryS → Nat → Int32 → Int32 → Option (ryS)
  | 0, _, _, _, _ => none
  | n + 1, s, v0, v1, v2 =>
    if v2 < (s.1 ((v0 + 1)) 5) then
      (rhck (0 ≤ (v1).toInt ∧ (v1).toInt < n) <|
      rhck (0 ≤ (v2).toInt ∧ (v2).toInt < (32 : Nat)) <|
      let x3 := (s.1 ((v0 + 16)) v1.toNatClampNeg) + (s.1 ((v0 + 7)) v2.toNatClampNeg)
      rhck (0 ≤ (v2).toInt ∧ (v2).toInt < (32 : Nat)) <|
      (g_X0_numberOf n tb s ((v0 + 8)) (s.2 ((v0 + 5)) v2.toNatClampNeg)).bind fun r4 =>
      let x5 := r4.1
      if x5 = ((-1)) then
        (rhck (0 ≤ (v2).toInt ∧ (v2).toInt < (32 : Nat)) <|
        (g_X0_add n tb r4.2 ((v0 + 8)) (r4.2.2 ((v0 + 5)) v2.toNatClampNeg) v1 (r4.2.1 ((v0 + 6)) v2.toNatClampNeg)).bind fun r6 =>
        let x7 := r6.1
        if x7 = ((-1)) then
          (g_X5_weighOn_188 t n tb kn (g_X5_weighOn_37 t n tb kn n) r6.2 v0 v1 v2)
        else
          (g_X10_put n r6.2 ((v0 + 14)) x7 x3).bind fun r9 =>
          g_X5_weighOn_188 t n tb kn (g_X5_weighOn_37 t n tb kn n) r9 v0 v1 v2)
      else
        (g_X5_isBetter n r4.2 v0 x5 v1 x3).bind fun r10 =>
        if r10 = 0 then
          (g_X5_weighOn_188 t n tb kn (g_X5_weighOn_37 t n tb kn n) r4.2 v0 v1 v2)
        else
          rhck (0 ≤ (v2).toInt ∧ (v2).toInt < (32 : Nat)) <|
          (g_X0_lead n r4.2 ((v0 + 8)) x5 v1 (r4.2.1 ((v0 + 6)) v2.toNatClampNeg)).bind fun r11 =>
          (g_X10_drop n r11 ((v0 + 14)) x5).bind fun r12 =>
          (g_X10_put n r12 ((v0 + 14)) x5 x3).bind fun r13 =>
          g_X5_weighOn_188 t n tb kn (g_X5_weighOn_37 t n tb kn n) r13 v0 v1 v2)
    else
      some s
def g_X5_weighOn (t : Nat) (n : Nat) (tb : Nat) (kn : Nat) (s : ryS) (v0 : Nat) (v1 : Int32) : Option (ryS) :=
    rhck (0 ≤ (v1).toInt ∧ (v1).toInt < n) <|
    (g_X7_look s ((v0 + 1)) t (s.2 ((v0 + 9)) v1.toNatClampNeg)).bind fun r1 =>
    (g_X7_listPulls t kn r1 ((v0 + 1)) t ((v0 + 19))).bind fun r2 =>
    g_X5_weighOn_37 t n tb kn rhFU r2 v0 v1 0
set_option maxHeartbeats 400000 in
set_option maxRecDepth 100000 in
theorem e_X5_weighOn_188 {Γ : rhG} {R : Nat → Nat → Nat} {t : Nat} {n : Nat} {tb : Nat} {kn : Nat} {v0 : Nat} (hO_5_v0 : Sh5 Γ R v0 t n tb kn) (hO_9_t : Sh9 Γ R t) {f37 : rhM → Nat → Int32 → Int32 → Option (rhM)} {k37 : ryS → Nat → Int32 → Int32 → Option (ryS)} (hk37 : ∀ (s : ryS) (v0 : Nat) (v1 : Int32) (v2 : Int32), f37 (ryM s R) v0 v1 v2 = Option.map (fun s => ryM s R) (k37 s v0 v1 v2)) : ∀ (s : ryS) (v1 : Int32) (v2 : Int32), f_X5_weighOn_188 f37 Γ (ryM s R) v0 v1 v2 = Option.map (fun s => ryM s R) (g_X5_weighOn_188 t n tb kn k37 s v0 v1 v2) := by
  have z5v0 := hO_5_v0
  obtain ⟨q5v0_0, q5v0_1, q5v0_2, q5v0_3, q5v0_4, q5v0_5, hO5_7, hO5_0, hO5_10, hO5_2⟩ := z5v0
  obtain ⟨q57_0, q57_1, q57_2, q57_3, q57_4, q57_5, q57_6, q57_7, q57_8, q57_9, q57_10, q57_11, q57_12, q57_13, q57_14, q57_15, q57_16, q57_17, q57_18⟩ := hO5_7
  obtain ⟨q50_0, q50_1, q50_2, q50_3, q50_4, q50_5, q50_6, q50_7, q50_8, q50_9, q50_10, q50_11, q50_12, q50_13, q50_14, q50_15⟩ := hO5_0
  obtain ⟨q510_0, q510_1, q510_2, q510_3, q510_4, q510_5, q510_6, q510_7, q510_8, q510_9, q510_10, q510_11, q510_12⟩ := hO5_10
  obtain ⟨q52_0, q52_1, q52_2, q52_3, q52_4⟩ := hO5_2
  have z9t := hO_9_t
  obtain ⟨q9t_0, q9t_1, q9t_2, q9t_3, q9t_4, q9t_5, q9t_6, q9t_7, q9t_8, q9t_9, q9t_10, q9t_11, q9t_12, q9t_13, q9t_14, q9t_15, q9t_16, hO_1_t⟩ := z9t
  obtain ⟨q1t_0, q1t_1, q1t_2, q1t_3, q1t_4, q1t_5, q1t_6, q1t_7, q1t_8, q1t_9, q1t_10, q1t_11, q1t_12⟩ := hO_1_t
  intros
  simp only [f_X5_weighOn_188, g_X5_weighOn_188, rhck, ryM_1, ryM_2, ryM_3, ry_si, ry_sl, if_true, ry_ck, Option.map_some, Option.map_none, ry_ite, ry_bm, ry_mb, Nat.add_assoc, Nat.reduceAdd, Option.some_bind, Option.bind_some, q5v0_0, q5v0_1, q5v0_2, q5v0_3, q5v0_4, q5v0_5, q57_0, q57_1, q57_2, q57_3, q57_4, q57_5, q57_6, q57_7, q57_8, q57_9, q57_10, q57_11, q57_12, q57_13, q57_14, q57_15, q57_16, q57_17, q57_18, q50_0, q50_1, q50_2, q50_3, q50_4, q50_5, q50_6, q50_7, q50_8, q50_9, q50_10, q50_11, q50_12, q50_13, q50_14, q50_15, q510_0, q510_1, q510_2, q510_3, q510_4, q510_5, q510_6, q510_7, q510_8, q510_9, q510_10, q510_11, q510_12, q52_0, q52_1, q52_2, q52_3, q52_4, q9t_0, q9t_1, q9t_2, q9t_3, q9t_4, q9t_5, q9t_6, q9t_7, q9t_8, q9t_9, q9t_10, q9t_11, q9t_12, q9t_13, q9t_14, q9t_15, q9t_16, q1t_0, q1t_1, q1t_2, q1t_3, q1t_4, q1t_5, q1t_6, q1t_7, q1t_8, q1t_9, q1t_10, q1t_11, q1t_12, hk37]
set_option maxHeartbeats 400000 in
set_option maxRecDepth 100000 in
theorem e_X5_weighOn_37 {Γ : rhG} {R : Nat → Nat → Nat} {t : Nat} {n : Nat} {tb : Nat} {kn : Nat} {v0 : Nat} (hO_5_v0 : Sh5 Γ R v0 t n tb kn) (hO_9_t : Sh9 Γ R t) : ∀ (n : Nat) (s : ryS) (v1 : Int32) (v2 : Int32), f_X5_weighOn_37 Γ n (ryM s R) v0 v1 v2 = Option.map (fun s => ryM s R) (g_X5_weighOn_37 t n tb kn n s v0 v1 v2) := by
  have z5v0 := hO_5_v0
  obtain ⟨q5v0_0, q5v0_1, q5v0_2, q5v0_3, q5v0_4, q5v0_5, hO5_7, hO5_0, hO5_10, hO5_2⟩ := z5v0
  obtain ⟨q57_0, q57_1, q57_2, q57_3, q57_4, q57_5, q57_6, q57_7, q57_8, q57_9, q57_10, q57_11, q57_12, q57_13, q57_14, q57_15, q57_16, q57_17, q57_18⟩ := hO5_7
  obtain ⟨q50_0, q50_1, q50_2, q50_3, q50_4, q50_5, q50_6, q50_7, q50_8, q50_9, q50_10, q50_11, q50_12, q50_13, q50_14, q50_15⟩ := hO5_0
  obtain ⟨q510_0, q510_1, q510_2, q510_3, q510_4, q510_5, q510_6, q510_7, q510_8, q510_9, q510_10, q510_11, q510_12⟩ := hO5_10
  obtain ⟨q52_0, q52_1, q52_2, q52_3, q52_4⟩ := hO5_2
  have z9t := hO_9_t
  obtain ⟨q9t_0, q9t_1, q9t_2, q9t_3, q9t_4, q9t_5, q9t_6, q9t_7, q9t_8, q9t_9, q9t_10, q9t_11, q9t_12, q9t_13, q9t_14, q9t_15, q9t_16, hO_1_t⟩ := z9t
  obtain ⟨q1t_0, q1t_1, q1t_2, q1t_3, q1t_4, q1t_5, q1t_6, q1t_7, q1t_8, q1t_9, q1t_10, q1t_11, q1t_12⟩ := hO_1_t
  intro n
  induction n with
  | zero => intros; simp only [f_X5_weighOn_37, g_X5_weighOn_37, Option.map_none]
  | succ n ih =>
    intros
    simp only [f_X5_weighOn_37, g_X5_weighOn_37, rhck, ryM_1, ryM_2, ryM_3, ry_si, ry_sl, if_true, ry_ck, Option.map_some, Option.map_none, ry_ite, ry_bm, ry_mb, Nat.add_assoc, Nat.reduceAdd, Option.some_bind, Option.bind_some, q5v0_0, q5v0_1, q5v0_2, q5v0_3, q5v0_4, q5v0_5, q57_0, q57_1, q57_2, q57_3, q57_4, q57_5, q57_6, q57_7, q57_8, q57_9, q57_10, q57_11, q57_12, q57_13, q57_14, q57_15, q57_16, q57_17, q57_18, q50_0, q50_1, q50_2, q50_3, q50_4, q50_5, q50_6, q50_7, q50_8, q50_9, q50_10, q50_11, q50_12, q50_13, q50_14, q50_15, q510_0, q510_1, q510_2, q510_3, q510_4, q510_5, q510_6, q510_7, q510_8, q510_9, q510_10, q510_11, q510_12, q52_0, q52_1, q52_2, q52_3, q52_4, q9t_0, q9t_1, q9t_2, q9t_3, q9t_4, q9t_5, q9t_6, q9t_7, q9t_8, q9t_9, q9t_10, q9t_11, q9t_12, q9t_13, q9t_14, q9t_15, q9t_16, q1t_0, q1t_1, q1t_2, q1t_3, q1t_4, q1t_5, q1t_6, q1t_7, q1t_8, q1t_9, q1t_10, q1t_11, q1t_12, e_X0_numberOf (sh5_0 hO_5_v0), e_X0_add (sh5_0 hO_5_v0), e_X10_put (sh5_10 hO_5_v0), e_X5_isBetter hO_5_v0, e_X0_lead (sh5_0 hO_5_v0), e_X10_drop (sh5_10 hO_5_v0), e_X10_put (sh5_10 hO_5_v0), e_X5_weighOn_188 hO_5_v0 hO_9_t ih, ih]
set_option maxHeartbeats 400000 in
set_option maxRecDepth 100000 in
theorem e_X5_weighOn {Γ : rhG} {R : Nat → Nat → Nat} {t : Nat} {n : Nat} {tb : Nat} {kn : Nat} {v0 : Nat} (hO_5_v0 : Sh5 Γ R v0 t n tb kn) (hO_9_t : Sh9 Γ R t) : ∀ (s : ryS) (v1 : Int32), f_X5_weighOn Γ (ryM s R) v0 v1 = Option.map (fun s => ryM s R) (g_X5_weighOn t n tb kn s v0 v1) := by
  have z5v0 := hO_5_v0
  obtain ⟨q5v0_0, q5v0_1, q5v0_2, q5v0_3, q5v0_4, q5v0_5, hO5_7, hO5_0, hO5_10, hO5_2⟩ := z5v0
  obtain ⟨q57_0, q57_1, q57_2, q57_3, q57_4, q57_5, q57_6, q57_7, q57_8, q57_9, q57_10, q57_11, q57_12, q57_13, q57_14, q57_15, q57_16, q57_17, q57_18⟩ := hO5_7
  obtain ⟨q50_0, q50_1, q50_2, q50_3, q50_4, q50_5, q50_6, q50_7, q50_8, q50_9, q50_10, q50_11, q50_12, q50_13, q50_14, q50_15⟩ := hO5_0
  obtain ⟨q510_0, q510_1, q510_2, q510_3, q510_4, q510_5, q510_6, q510_7, q510_8, q510_9, q510_10, q510_11, q510_12⟩ := hO5_10
  obtain ⟨q52_0, q52_1, q52_2, q52_3, q52_4⟩ := hO5_2
  have z9t := hO_9_t
  obtain ⟨q9t_0, q9t_1, q9t_2, q9t_3, q9t_4, q9t_5, q9t_6, q9t_7, q9t_8, q9t_9, q9t_10, q9t_11, q9t_12, q9t_13, q9t_14, q9t_15, q9t_16, hO_1_t⟩ := z9t
  obtain ⟨q1t_0, q1t_1, q1t_2, q1t_3, q1t_4, q1t_5, q1t_6, q1t_7, q1t_8, q1t_9, q1t_10, q1t_11, q1t_12⟩ := hO_1_t
  intros
  simp only [f_X5_weighOn, g_X5_weighOn, rhck, ryM_1, ryM_2, ryM_3, ry_si, ry_sl, if_true, ry_ck, Option.map_some, Option.map_none, ry_ite, ry_bm, ry_mb, Nat.add_assoc, Nat.reduceAdd, Option.some_bind, Option.bind_some, q5v0_0, q5v0_1, q5v0_2, q5v0_3, q5v0_4, q5v0_5, q57_0, q57_1, q57_2, q57_3, q57_4, q57_5, q57_6, q57_7, q57_8, q57_9, q57_10, q57_11, q57_12, q57_13, q57_14, q57_15, q57_16, q57_17, q57_18, q50_0, q50_1, q50_2, q50_3, q50_4, q50_5, q50_6, q50_7, q50_8, q50_9, q50_10, q50_11, q50_12, q50_13, q50_14, q50_15, q510_0, q510_1, q510_2, q510_3, q510_4, q510_5, q510_6, q510_7, q510_8, q510_9, q510_10, q510_11, q510_12, q52_0, q52_1, q52_2, q52_3, q52_4, q9t_0, q9t_1, q9t_2, q9t_3, q9t_4, q9t_5, q9t_6, q9t_7, q9t_8, q9t_9, q9t_10, q9t_11, q9t_12, q9t_13, q9t_14, q9t_15, q9t_16, q1t_0, q1t_1, q1t_2, q1t_3, q1t_4, q1t_5, q1t_6, q1t_7, q1t_8, q1t_9, q1t_10, q1t_11, q1t_12, e_X7_look (sh5_7 hO_5_v0) hO_9_t, e_X7_listPulls (sh5_2 hO_5_v0) (sh5_7 hO_5_v0) hO_9_t hO_9_t, e_X5_weighOn_37 hO_5_v0 hO_9_t]
def g_X5_weightTo (n : Nat) (s : ryS) (v0 : Nat) (v1 : Int32) : Option (Int32) :=
    rhck (0 ≤ (v1).toInt ∧ (v1).toInt < n) <|
    some (s.1 ((v0 + 16)) v1.toNatClampNeg)
set_option maxHeartbeats 400000 in
set_option maxRecDepth 100000 in
theorem e_X5_weightTo {Γ : rhG} {R : Nat → Nat → Nat} {n : Nat} {v0 : Nat} (hO_5_v0 : Sh5 Γ R v0 t n tb kn) {s : ryS} : ∀ (v1 : Int32), f_X5_weightTo Γ (ryM s R) v0 v1 = g_X5_weightTo n s v0 v1 := by
  have z5v0 := hO_5_v0
  obtain ⟨q5v0_0, q5v0_1, q5v0_2, q5v0_3, q5v0_4, q5v0_5, hO5_7, hO5_0, hO5_10, hO5_2⟩ := z5v0
  obtain ⟨q57_0, q57_1, q57_2, q57_3, q57_4, q57_5, q57_6, q57_7, q57_8, q57_9, q57_10, q57_11, q57_12, q57_13, q57_14, q57_15, q57_16, q57_17, q57_18⟩ := hO5_7
  obtain ⟨q50_0, q50_1, q50_2, q50_3, q50_4, q50_5, q50_6, q50_7, q50_8, q50_9, q50_10, q50_11, q50_12, q50_13, q50_14, q50_15⟩ := hO5_0
  obtain ⟨q510_0, q510_1, q510_2, q510_3, q510_4, q510_5, q510_6, q510_7, q510_8, q510_9, q510_10, q510_11, q510_12⟩ := hO5_10
  obtain ⟨q52_0, q52_1, q52_2, q52_3, q52_4⟩ := hO5_2
  intros
  simp only [f_X5_weightTo, g_X5_weightTo, rhck, ryM_1, ryM_2, ryM_3, ry_si, ry_sl, if_true, ry_ck, Option.map_some, Option.map_none, ry_ite, ry_bm, ry_mb, Nat.add_assoc, Nat.reduceAdd, Option.some_bind, Option.bind_some, q5v0_0, q5v0_1, q5v0_2, q5v0_3, q5v0_4, q5v0_5, q57_0, q57_1, q57_2, q57_3, q57_4, q57_5, q57_6, q57_7, q57_8, q57_9, q57_10, q57_11, q57_12, q57_13, q57_14, q57_15, q57_16, q57_17, q57_18, q50_0, q50_1, q50_2, q50_3, q50_4, q50_5, q50_6, q50_7, q50_8, q50_9, q50_10, q50_11, q50_12, q50_13, q50_14, q50_15, q510_0, q510_1, q510_2, q510_3, q510_4, q510_5, q510_6, q510_7, q510_8, q510_9, q510_10, q510_11, q510_12, q52_0, q52_1, q52_2, q52_3, q52_4]
def g_X6_add (s : ryS) (v1 : Int32) (v2 : Int32) (v3 : Int32) (v4 : Int32) (v5 : Int32) : Option (Int32 × ryS) :=
    if (s.1 55 0) < 20 then
      (rhck (0 ≤ (s.1 55 0).toInt ∧ (s.1 55 0).toInt < (20 : Nat)) <|
      let s1 := rysi s 56 (s.1 55 0 : Int32).toNatClampNeg v1
      rhck (0 ≤ (s1.1 55 0).toInt ∧ (s1.1 55 0).toInt < (20 : Nat)) <|
      let s2 := rysi s1 57 (s1.1 55 0 : Int32).toNatClampNeg v2
      rhck (0 ≤ (s2.1 55 0).toInt ∧ (s2.1 55 0).toInt < (20 : Nat)) <|
      let s3 := rysi s2 58 (s2.1 55 0 : Int32).toNatClampNeg v3
      rhck (0 ≤ (s3.1 55 0).toInt ∧ (s3.1 55 0).toInt < (20 : Nat)) <|
      let s4 := rysi s3 59 (s3.1 55 0 : Int32).toNatClampNeg ((vp_nar .boolean v4))
      rhck (0 ≤ (s4.1 55 0).toInt ∧ (s4.1 55 0).toInt < (20 : Nat)) <|
      let s5 := rysi s4 60 (s4.1 55 0 : Int32).toNatClampNeg v5
      rhck (0 ≤ (s5.1 55 0).toInt ∧ (s5.1 55 0).toInt < (20 : Nat)) <|
      let s6 := rysi s5 61 (s5.1 55 0 : Int32).toNatClampNeg (((-1)))
      let s7 := rysi s6 55 0 ((s6.1 55 0) + 1)
      some (((s7.1 55 0) - 1, s7)))
    else
      some (((-1), s))
set_option maxHeartbeats 400000 in
set_option maxRecDepth 100000 in
theorem e_X6_add {Γ : rhG} {R : Nat → Nat → Nat} (hS : ShS Γ R) : ∀ (s : ryS) (v1 : Int32) (v2 : Int32) (v3 : Int32) (v4 : Int32) (v5 : Int32), f_X6_add Γ (ryM s R) 55 v1 v2 v3 v4 v5 = Option.map (fun q => (q.1, ryM q.2 R)) (g_X6_add s v1 v2 v3 v4 v5) := by
  intros
  simp only [f_X6_add, g_X6_add, rhck, ryM_1, ryM_2, ryM_3, ry_si, ry_sl, if_true, ry_ck, Option.map_some, Option.map_none, ry_ite, ry_bm, ry_mb, Nat.add_assoc, Nat.reduceAdd, Option.some_bind, Option.bind_some, ssk_55 hS, ssk_56 hS, ssk_57 hS, ssk_58 hS, ssk_59 hS, ssk_60 hS, ssk_61 hS, ssl_56 hS, ssl_57 hS, ssl_58 hS, ssl_59 hS, ssl_60 hS, ssl_61 hS, ssr_55_1 hS, ssr_55_2 hS, ssr_55_3 hS, ssr_55_4 hS, ssr_55_5 hS, ssr_55_6 hS]
def g_X6_agrees_74 (k2 : Nat → Int32 → Int32 → Option (Int32)) (s : ryS) (v1 : Nat) (v2 : Int32) (v3 : Int32) : Option (Int32) :=
    let x1 : Int32 := v3 + 1
    k2 v1 v2 x1
def g_X6_agrees_59 (k74 : Nat → Int32 → Int32 → Option (Int32)) (s : ryS) (v1 : Nat) (v2 : Int32) (v3 : Int32) (w0 : Int32) : Option (Int32) :=
    rhck (0 ≤ (v3).toInt ∧ (v3).toInt < (20 : Nat)) <|
    if w0 = (s.1 59 v3.toNatClampNeg) then
      (k74 v1 v2 v3)
    else
      some 0
def g_X6_agrees_2 (s : ryS) : Nat → Nat → Int32 → Int32 → Option (Int32)
  | 0, _, _, _ => none
  | n + 1, v1, v2, v3 =>
    if v3 < (s.1 55 0) then
      (if ((rhus (s.1 55 10) v3) &&& 1) = 0 then
        (g_X6_agrees_74 (g_X6_agrees_2 s n) s v1 v2 v3)
      else
        rhck (0 ≤ (v3).toInt ∧ (v3).toInt < (20 : Nat)) <|
        if (s.1 56 v3.toNatClampNeg) = v2 then
          (rhck (0 ≤ (v3).toInt ∧ (v3).toInt < (20 : Nat)) <|
          rhck (0 ≤ (s.1 58 v3.toNatClampNeg).toInt ∧ (s.1 58 v3.toNatClampNeg).toInt < (5 : Nat)) <|
          rhck (0 ≤ (v3).toInt ∧ (v3).toInt < (20 : Nat)) <|
          if ((rhus (s.1 ((v1 + 3)) (s.1 58 v3.toNatClampNeg).toNatClampNeg) (s.1 57 v3.toNatClampNeg)) &&& 1) = 0 then
            (g_X6_agrees_59 (g_X6_agrees_74 (g_X6_agrees_2 s n) s) s v1 v2 v3 0)
          else
            g_X6_agrees_59 (g_X6_agrees_74 (g_X6_agrees_2 s n) s) s v1 v2 v3 1)
        else
          g_X6_agrees_74 (g_X6_agrees_2 s n) s v1 v2 v3)
    else
      some 1
def g_X6_agrees (s : ryS) (v1 : Nat) (v2 : Int32) : Option (Int32) :=
    g_X6_agrees_2 s rhFU v1 v2 0
set_option maxHeartbeats 400000 in
set_option maxRecDepth 100000 in
theorem e_X6_agrees_74 {Γ : rhG} {R : Nat → Nat → Nat} {v1 : Nat} (hO_7_v1 : Sh7 Γ R v1) (hS : ShS Γ R) {f2 : Nat → Nat → Int32 → Int32 → Option (Int32)} {k2 : Nat → Int32 → Int32 → Option (Int32)} (hk2 : ∀ (v1 : Nat) (v2 : Int32) (v3 : Int32), f2 55 v1 v2 v3 = k2 v1 v2 v3) {s : ryS} : ∀ (v2 : Int32) (v3 : Int32), f_X6_agrees_74 f2 Γ (ryM s R) 55 v1 v2 v3 = g_X6_agrees_74 k2 s v1 v2 v3 := by
  have z7v1 := hO_7_v1
  obtain ⟨q7v1_0, q7v1_1, q7v1_2, q7v1_3, q7v1_4, q7v1_5, q7v1_6, q7v1_7, q7v1_8, q7v1_9, q7v1_10, q7v1_11, q7v1_12, q7v1_13, q7v1_14, q7v1_15, q7v1_16, q7v1_17, q7v1_18⟩ := z7v1
  intros
  simp only [f_X6_agrees_74, g_X6_agrees_74, rhck, ryM_1, ryM_2, ryM_3, ry_si, ry_sl, if_true, ry_ck, Option.map_some, Option.map_none, ry_ite, ry_bm, ry_mb, Nat.add_assoc, Nat.reduceAdd, Option.some_bind, Option.bind_some, q7v1_0, q7v1_1, q7v1_2, q7v1_3, q7v1_4, q7v1_5, q7v1_6, q7v1_7, q7v1_8, q7v1_9, q7v1_10, q7v1_11, q7v1_12, q7v1_13, q7v1_14, q7v1_15, q7v1_16, q7v1_17, q7v1_18, hk2]
set_option maxHeartbeats 400000 in
set_option maxRecDepth 100000 in
theorem e_X6_agrees_59 {Γ : rhG} {R : Nat → Nat → Nat} {v1 : Nat} (hO_7_v1 : Sh7 Γ R v1) (hS : ShS Γ R) {f74 : Nat → Nat → Int32 → Int32 → Option (Int32)} {k74 : Nat → Int32 → Int32 → Option (Int32)} (hk74 : ∀ (v1 : Nat) (v2 : Int32) (v3 : Int32), f74 55 v1 v2 v3 = k74 v1 v2 v3) {s : ryS} : ∀ (v2 : Int32) (v3 : Int32) (w0 : Int32), f_X6_agrees_59 f74 Γ (ryM s R) 55 v1 v2 v3 w0 = g_X6_agrees_59 k74 s v1 v2 v3 w0 := by
  have z7v1 := hO_7_v1
  obtain ⟨q7v1_0, q7v1_1, q7v1_2, q7v1_3, q7v1_4, q7v1_5, q7v1_6, q7v1_7, q7v1_8, q7v1_9, q7v1_10, q7v1_11, q7v1_12, q7v1_13, q7v1_14, q7v1_15, q7v1_16, q7v1_17, q7v1_18⟩ := z7v1
  intros
  simp only [f_X6_agrees_59, g_X6_agrees_59, rhck, ryM_1, ryM_2, ryM_3, ry_si, ry_sl, if_true, ry_ck, Option.map_some, Option.map_none, ry_ite, ry_bm, ry_mb, Nat.add_assoc, Nat.reduceAdd, Option.some_bind, Option.bind_some, ssk_55 hS, ssk_59 hS, ssl_59 hS, ssr_55_4 hS, q7v1_0, q7v1_1, q7v1_2, q7v1_3, q7v1_4, q7v1_5, q7v1_6, q7v1_7, q7v1_8, q7v1_9, q7v1_10, q7v1_11, q7v1_12, q7v1_13, q7v1_14, q7v1_15, q7v1_16, q7v1_17, q7v1_18, hk74]
set_option maxHeartbeats 400000 in
set_option maxRecDepth 100000 in
theorem e_X6_agrees_2 {Γ : rhG} {R : Nat → Nat → Nat} {v1 : Nat} (hO_7_v1 : Sh7 Γ R v1) (hS : ShS Γ R) {s : ryS} : ∀ (n : Nat) (v2 : Int32) (v3 : Int32), f_X6_agrees_2 Γ (ryM s R) n 55 v1 v2 v3 = g_X6_agrees_2 s n v1 v2 v3 := by
  have z7v1 := hO_7_v1
  obtain ⟨q7v1_0, q7v1_1, q7v1_2, q7v1_3, q7v1_4, q7v1_5, q7v1_6, q7v1_7, q7v1_8, q7v1_9, q7v1_10, q7v1_11, q7v1_12, q7v1_13, q7v1_14, q7v1_15, q7v1_16, q7v1_17, q7v1_18⟩ := z7v1
  intro n
  induction n with
  | zero => intros; simp only [f_X6_agrees_2, g_X6_agrees_2, Option.map_none]
  | succ n ih =>
    intros
    simp only [f_X6_agrees_2, g_X6_agrees_2, rhck, ryM_1, ryM_2, ryM_3, ry_si, ry_sl, if_true, ry_ck, Option.map_some, Option.map_none, ry_ite, ry_bm, ry_mb, Nat.add_assoc, Nat.reduceAdd, Option.some_bind, Option.bind_some, ssk_55 hS, ssk_56 hS, ssk_57 hS, ssk_58 hS, ssl_56 hS, ssl_57 hS, ssl_58 hS, ssr_55_1 hS, ssr_55_2 hS, ssr_55_3 hS, q7v1_0, q7v1_1, q7v1_2, q7v1_3, q7v1_4, q7v1_5, q7v1_6, q7v1_7, q7v1_8, q7v1_9, q7v1_10, q7v1_11, q7v1_12, q7v1_13, q7v1_14, q7v1_15, q7v1_16, q7v1_17, q7v1_18, e_X6_agrees_74 hO_7_v1 hS ih, e_X6_agrees_59 hO_7_v1 hS (e_X6_agrees_74 hO_7_v1 hS ih), ih]
set_option maxHeartbeats 400000 in
set_option maxRecDepth 100000 in
theorem e_X6_agrees {Γ : rhG} {R : Nat → Nat → Nat} {v1 : Nat} (hO_7_v1 : Sh7 Γ R v1) (hS : ShS Γ R) {s : ryS} : ∀ (v2 : Int32), f_X6_agrees Γ (ryM s R) 55 v1 v2 = g_X6_agrees s v1 v2 := by
  have z7v1 := hO_7_v1
  obtain ⟨q7v1_0, q7v1_1, q7v1_2, q7v1_3, q7v1_4, q7v1_5, q7v1_6, q7v1_7, q7v1_8, q7v1_9, q7v1_10, q7v1_11, q7v1_12, q7v1_13, q7v1_14, q7v1_15, q7v1_16, q7v1_17, q7v1_18⟩ := z7v1
  intros
  simp only [f_X6_agrees, g_X6_agrees, rhck, ryM_1, ryM_2, ryM_3, ry_si, ry_sl, if_true, ry_ck, Option.map_some, Option.map_none, ry_ite, ry_bm, ry_mb, Nat.add_assoc, Nat.reduceAdd, Option.some_bind, Option.bind_some, q7v1_0, q7v1_1, q7v1_2, q7v1_3, q7v1_4, q7v1_5, q7v1_6, q7v1_7, q7v1_8, q7v1_9, q7v1_10, q7v1_11, q7v1_12, q7v1_13, q7v1_14, q7v1_15, q7v1_16, q7v1_17, q7v1_18, e_X6_agrees_2 hO_7_v1 hS]
def g_X6_clear (s : ryS) : Option (ryS) :=
    let s1 := rysi s 55 0 0
    (g_J7_fill_53178 (4 : Nat) s1 65 ((-1) : Int32)).bind fun r2 =>
    some r2
set_option maxHeartbeats 400000 in
set_option maxRecDepth 100000 in
theorem e_X6_clear {Γ : rhG} {R : Nat → Nat → Nat} (hS : ShS Γ R) : ∀ (s : ryS), f_X6_clear Γ (ryM s R) 55 = Option.map (fun s => ryM s R) (g_X6_clear s) := by
  intros
  simp only [f_X6_clear, g_X6_clear, rhck, ryM_1, ryM_2, ryM_3, ry_si, ry_sl, if_true, ry_ck, Option.map_some, Option.map_none, ry_ite, ry_bm, ry_mb, Nat.add_assoc, Nat.reduceAdd, Option.some_bind, Option.bind_some, ssk_55 hS, ssk_65 hS, ssl_65 hS, ssr_55_12 hS, e_J7_fill_53178 ⟨ssk_65 hS, ssl_65 hS⟩]
def g_X6_setKnownAt_40 (k41 : Int32 → Int32 → Int32 → Int32 → Int32 → Option (Int32)) (s : ryS) (v1 : Int32) (v2 : Int32) (v3 : Int32) (v4 : Int32) : Option (Int32) :=
    k41 v1 v2 v3 v4 0
def g_X6_setKnownAt_77 (k5 : Int32 → Int32 → Int32 → Int32 → Option (Int32)) (s : ryS) (v1 : Int32) (v2 : Int32) (v3 : Int32) (v4 : Int32) : Option (Int32) :=
    let x1 : Int32 := v4 + 1
    k5 v1 v2 v3 x1
def g_X6_setKnownAt_41 (k5 : Int32 → Int32 → Int32 → Int32 → Option (Int32)) (s : ryS) (v1 : Int32) (v2 : Int32) (v3 : Int32) (v4 : Int32) (w0 : Int32) : Option (Int32) :=
    rhck (0 ≤ (v4).toInt ∧ (v4).toInt < (20 : Nat)) <|
    if v1 < (s.1 56 v4.toNatClampNeg) then
      (g_X6_setKnownAt_77 k5 s v1 v2 v3 v4)
    else
      rhck (0 ≤ (v4).toInt ∧ (v4).toInt < (20 : Nat)) <|
      if v2 < (s.1 60 v4.toNatClampNeg) then
        (g_X6_setKnownAt_77 k5 s v1 v2 v3 v4)
      else
        if w0 = 0 then
          (let x2 := v3 ||| (1 <<< (v4 &&& 31))
          g_X6_setKnownAt_77 k5 s v1 v2 x2 v4)
        else
          g_X6_setKnownAt_77 k5 s v1 v2 v3 v4
def g_X6_setKnownAt_5 (s : ryS) : Nat → Int32 → Int32 → Int32 → Int32 → Option (Int32)
  | 0, _, _, _, _ => none
  | n + 1, v1, v2, v3, v4 =>
    if v4 < (s.1 55 0) then
      (rhck (0 ≤ (v4).toInt ∧ (v4).toInt < (20 : Nat)) <|
      if (s.1 61 v4.toNatClampNeg) = ((-1)) then
        (g_X6_setKnownAt_40 (g_X6_setKnownAt_41 (g_X6_setKnownAt_5 s n) s) s v1 v2 v3 v4)
      else
        if v2 < (s.1 61 v4.toNatClampNeg) then
          (g_X6_setKnownAt_40 (g_X6_setKnownAt_41 (g_X6_setKnownAt_5 s n) s) s v1 v2 v3 v4)
        else
          g_X6_setKnownAt_41 (g_X6_setKnownAt_5 s n) s v1 v2 v3 v4 1)
    else
      some v3
def g_X6_setKnownAt (s : ryS) (v1 : Int32) (v2 : Int32) : Option (Int32) :=
    g_X6_setKnownAt_5 s rhFU v1 v2 0 0
set_option maxHeartbeats 400000 in
set_option maxRecDepth 100000 in
theorem e_X6_setKnownAt_40 {Γ : rhG} {R : Nat → Nat → Nat} (hS : ShS Γ R) {f41 : Nat → Int32 → Int32 → Int32 → Int32 → Int32 → Option (Int32)} {k41 : Int32 → Int32 → Int32 → Int32 → Int32 → Option (Int32)} (hk41 : ∀ (v1 : Int32) (v2 : Int32) (v3 : Int32) (v4 : Int32) (w0 : Int32), f41 55 v1 v2 v3 v4 w0 = k41 v1 v2 v3 v4 w0) {s : ryS} : ∀ (v1 : Int32) (v2 : Int32) (v3 : Int32) (v4 : Int32), f_X6_setKnownAt_40 f41 Γ (ryM s R) 55 v1 v2 v3 v4 = g_X6_setKnownAt_40 k41 s v1 v2 v3 v4 := by
  intros
  simp only [f_X6_setKnownAt_40, g_X6_setKnownAt_40, rhck, ryM_1, ryM_2, ryM_3, ry_si, ry_sl, if_true, ry_ck, Option.map_some, Option.map_none, ry_ite, ry_bm, ry_mb, Nat.add_assoc, Nat.reduceAdd, Option.some_bind, Option.bind_some, hk41]
set_option maxHeartbeats 400000 in
set_option maxRecDepth 100000 in
theorem e_X6_setKnownAt_77 {Γ : rhG} {R : Nat → Nat → Nat} (hS : ShS Γ R) {f5 : Nat → Int32 → Int32 → Int32 → Int32 → Option (Int32)} {k5 : Int32 → Int32 → Int32 → Int32 → Option (Int32)} (hk5 : ∀ (v1 : Int32) (v2 : Int32) (v3 : Int32) (v4 : Int32), f5 55 v1 v2 v3 v4 = k5 v1 v2 v3 v4) {s : ryS} : ∀ (v1 : Int32) (v2 : Int32) (v3 : Int32) (v4 : Int32), f_X6_setKnownAt_77 f5 Γ (ryM s R) 55 v1 v2 v3 v4 = g_X6_setKnownAt_77 k5 s v1 v2 v3 v4 := by
  intros
  simp only [f_X6_setKnownAt_77, g_X6_setKnownAt_77, rhck, ryM_1, ryM_2, ryM_3, ry_si, ry_sl, if_true, ry_ck, Option.map_some, Option.map_none, ry_ite, ry_bm, ry_mb, Nat.add_assoc, Nat.reduceAdd, Option.some_bind, Option.bind_some, hk5]
set_option maxHeartbeats 400000 in
set_option maxRecDepth 100000 in
theorem e_X6_setKnownAt_41 {Γ : rhG} {R : Nat → Nat → Nat} (hS : ShS Γ R) {f5 : Nat → Int32 → Int32 → Int32 → Int32 → Option (Int32)} {k5 : Int32 → Int32 → Int32 → Int32 → Option (Int32)} (hk5 : ∀ (v1 : Int32) (v2 : Int32) (v3 : Int32) (v4 : Int32), f5 55 v1 v2 v3 v4 = k5 v1 v2 v3 v4) {s : ryS} : ∀ (v1 : Int32) (v2 : Int32) (v3 : Int32) (v4 : Int32) (w0 : Int32), f_X6_setKnownAt_41 f5 Γ (ryM s R) 55 v1 v2 v3 v4 w0 = g_X6_setKnownAt_41 k5 s v1 v2 v3 v4 w0 := by
  intros
  simp only [f_X6_setKnownAt_41, g_X6_setKnownAt_41, rhck, ryM_1, ryM_2, ryM_3, ry_si, ry_sl, if_true, ry_ck, Option.map_some, Option.map_none, ry_ite, ry_bm, ry_mb, Nat.add_assoc, Nat.reduceAdd, Option.some_bind, Option.bind_some, ssk_55 hS, ssk_56 hS, ssk_60 hS, ssl_56 hS, ssl_60 hS, ssr_55_1 hS, ssr_55_5 hS, hk5, e_X6_setKnownAt_77 hS hk5]
set_option maxHeartbeats 400000 in
set_option maxRecDepth 100000 in
theorem e_X6_setKnownAt_5 {Γ : rhG} {R : Nat → Nat → Nat} (hS : ShS Γ R) {s : ryS} : ∀ (n : Nat) (v1 : Int32) (v2 : Int32) (v3 : Int32) (v4 : Int32), f_X6_setKnownAt_5 Γ (ryM s R) n 55 v1 v2 v3 v4 = g_X6_setKnownAt_5 s n v1 v2 v3 v4 := by
  intro n
  induction n with
  | zero => intros; simp only [f_X6_setKnownAt_5, g_X6_setKnownAt_5, Option.map_none]
  | succ n ih =>
    intros
    simp only [f_X6_setKnownAt_5, g_X6_setKnownAt_5, rhck, ryM_1, ryM_2, ryM_3, ry_si, ry_sl, if_true, ry_ck, Option.map_some, Option.map_none, ry_ite, ry_bm, ry_mb, Nat.add_assoc, Nat.reduceAdd, Option.some_bind, Option.bind_some, ssk_55 hS, ssk_61 hS, ssl_61 hS, ssr_55_6 hS, e_X6_setKnownAt_40 hS (e_X6_setKnownAt_41 hS ih), e_X6_setKnownAt_41 hS ih, ih]
set_option maxHeartbeats 400000 in
set_option maxRecDepth 100000 in
theorem e_X6_setKnownAt {Γ : rhG} {R : Nat → Nat → Nat} (hS : ShS Γ R) {s : ryS} : ∀ (v1 : Int32) (v2 : Int32), f_X6_setKnownAt Γ (ryM s R) 55 v1 v2 = g_X6_setKnownAt s v1 v2 := by
  intros
  simp only [f_X6_setKnownAt, g_X6_setKnownAt, rhck, ryM_1, ryM_2, ryM_3, ry_si, ry_sl, if_true, ry_ck, Option.map_some, Option.map_none, ry_ite, ry_bm, ry_mb, Nat.add_assoc, Nat.reduceAdd, Option.some_bind, Option.bind_some, e_X6_setKnownAt_5 hS]
def g_X6_railsOf_5 (s : ryS) : Nat → Int32 → Int32 → Int32 → Int32 → Option (Int32)
  | 0, _, _, _, _ => none
  | n + 1, v1, v2, v3, v4 =>
    if v4 < 5 then
      (rhck (0 ≤ ((v2 * 5) + v4).toInt ∧ ((v2 * 5) + v4).toInt < (20 : Nat)) <|
      let x1 := v3 ||| (((rhus (s.1 67 ((v2 * 5) + v4).toNatClampNeg) v1) &&& 1) <<< (v4 &&& 31))
      let x2 : Int32 := v4 + 1
      g_X6_railsOf_5 s n v1 v2 x1 x2)
    else
      some v3
def g_X6_railsOf (s : ryS) (v1 : Int32) (v2 : Int32) : Option (Int32) :=
    g_X6_railsOf_5 s rhFU v1 v2 0 0
set_option maxHeartbeats 400000 in
set_option maxRecDepth 100000 in
theorem e_X6_railsOf_5 {Γ : rhG} {R : Nat → Nat → Nat} (hS : ShS Γ R) {s : ryS} : ∀ (n : Nat) (v1 : Int32) (v2 : Int32) (v3 : Int32) (v4 : Int32), f_X6_railsOf_5 Γ (ryM s R) n 55 v1 v2 v3 v4 = g_X6_railsOf_5 s n v1 v2 v3 v4 := by
  intro n
  induction n with
  | zero => intros; simp only [f_X6_railsOf_5, g_X6_railsOf_5, Option.map_none]
  | succ n ih =>
    intros
    simp only [f_X6_railsOf_5, g_X6_railsOf_5, rhck, ryM_1, ryM_2, ryM_3, ry_si, ry_sl, if_true, ry_ck, Option.map_some, Option.map_none, ry_ite, ry_bm, ry_mb, Nat.add_assoc, Nat.reduceAdd, Option.some_bind, Option.bind_some, ssk_55 hS, ssk_67 hS, ssl_67 hS, ssr_55_14 hS, ih]
set_option maxHeartbeats 400000 in
set_option maxRecDepth 100000 in
theorem e_X6_railsOf {Γ : rhG} {R : Nat → Nat → Nat} (hS : ShS Γ R) {s : ryS} : ∀ (v1 : Int32) (v2 : Int32), f_X6_railsOf Γ (ryM s R) 55 v1 v2 = g_X6_railsOf s v1 v2 := by
  intros
  simp only [f_X6_railsOf, g_X6_railsOf, rhck, ryM_1, ryM_2, ryM_3, ry_si, ry_sl, if_true, ry_ck, Option.map_some, Option.map_none, ry_ite, ry_bm, ry_mb, Nat.add_assoc, Nat.reduceAdd, Option.some_bind, Option.bind_some, e_X6_railsOf_5 hS]
def g_X6_remove (s : ryS) (v1 : Int32) (v2 : Int32) : Option (Int32 × ryS) :=
    if v1 < 0 then
      (some ((0, s)))
    else
      if v1 < (s.1 55 0) then
        (rhck (0 ≤ (v1).toInt ∧ (v1).toInt < (20 : Nat)) <|
        if (s.1 61 v1.toNatClampNeg) = ((-1)) then
          (let s1 := rysi s 61 (v1 : Int32).toNatClampNeg v2
          some ((1, s1)))
        else
          some ((0, s)))
      else
        some ((0, s))
set_option maxHeartbeats 400000 in
set_option maxRecDepth 100000 in
theorem e_X6_remove {Γ : rhG} {R : Nat → Nat → Nat} (hS : ShS Γ R) : ∀ (s : ryS) (v1 : Int32) (v2 : Int32), f_X6_remove Γ (ryM s R) 55 v1 v2 = Option.map (fun q => (q.1, ryM q.2 R)) (g_X6_remove s v1 v2) := by
  intros
  simp only [f_X6_remove, g_X6_remove, rhck, ryM_1, ryM_2, ryM_3, ry_si, ry_sl, if_true, ry_ck, Option.map_some, Option.map_none, ry_ite, ry_bm, ry_mb, Nat.add_assoc, Nat.reduceAdd, Option.some_bind, Option.bind_some, ssk_55 hS, ssk_61 hS, ssl_61 hS, ssr_55_6 hS]
def g_X7_count (s : ryS) (v0 : Nat) (v1 : Int32) : Option (Int32) :=
    rhck (0 ≤ (v1).toInt ∧ (v1).toInt < (5 : Nat)) <|
    rhck (0 ≤ (v1).toInt ∧ (v1).toInt < (5 : Nat)) <|
    some ((s.1 ((v0 + 2)) v1.toNatClampNeg) - (s.1 ((v0 + 1)) v1.toNatClampNeg))
set_option maxHeartbeats 400000 in
set_option maxRecDepth 100000 in
theorem e_X7_count {Γ : rhG} {R : Nat → Nat → Nat} {v0 : Nat} (hO_7_v0 : Sh7 Γ R v0) {s : ryS} : ∀ (v1 : Int32), f_X7_count Γ (ryM s R) v0 v1 = g_X7_count s v0 v1 := by
  have z7v0 := hO_7_v0
  obtain ⟨q7v0_0, q7v0_1, q7v0_2, q7v0_3, q7v0_4, q7v0_5, q7v0_6, q7v0_7, q7v0_8, q7v0_9, q7v0_10, q7v0_11, q7v0_12, q7v0_13, q7v0_14, q7v0_15, q7v0_16, q7v0_17, q7v0_18⟩ := z7v0
  intros
  simp only [f_X7_count, g_X7_count, rhck, ryM_1, ryM_2, ryM_3, ry_si, ry_sl, if_true, ry_ck, Option.map_some, Option.map_none, ry_ite, ry_bm, ry_mb, Nat.add_assoc, Nat.reduceAdd, Option.some_bind, Option.bind_some, q7v0_0, q7v0_1, q7v0_2, q7v0_3, q7v0_4, q7v0_5, q7v0_6, q7v0_7, q7v0_8, q7v0_9, q7v0_10, q7v0_11, q7v0_12, q7v0_13, q7v0_14, q7v0_15, q7v0_16, q7v0_17, q7v0_18]
def g_X7_houseAt (s : ryS) (v0 : Nat) (v1 : Int32) (v2 : Int32) : Option (Int32) :=
    rhck (0 ≤ (v1).toInt ∧ (v1).toInt < (5 : Nat)) <|
    (g_X7_digitOf s (s.2 v0 0) ((s.1 ((v0 + 1)) v1.toNatClampNeg) + v2)).bind fun r1 =>
    some r1
set_option maxHeartbeats 400000 in
set_option maxRecDepth 100000 in
theorem e_X7_houseAt {Γ : rhG} {R : Nat → Nat → Nat} {v0 : Nat} (hO_7_v0 : Sh7 Γ R v0) {s : ryS} : ∀ (v1 : Int32) (v2 : Int32), f_X7_houseAt Γ (ryM s R) v0 v1 v2 = g_X7_houseAt s v0 v1 v2 := by
  have z7v0 := hO_7_v0
  obtain ⟨q7v0_0, q7v0_1, q7v0_2, q7v0_3, q7v0_4, q7v0_5, q7v0_6, q7v0_7, q7v0_8, q7v0_9, q7v0_10, q7v0_11, q7v0_12, q7v0_13, q7v0_14, q7v0_15, q7v0_16, q7v0_17, q7v0_18⟩ := z7v0
  intros
  simp only [f_X7_houseAt, g_X7_houseAt, rhck, ryM_1, ryM_2, ryM_3, ry_si, ry_sl, if_true, ry_ck, Option.map_some, Option.map_none, ry_ite, ry_bm, ry_mb, Nat.add_assoc, Nat.reduceAdd, Option.some_bind, Option.bind_some, q7v0_0, q7v0_1, q7v0_2, q7v0_3, q7v0_4, q7v0_5, q7v0_6, q7v0_7, q7v0_8, q7v0_9, q7v0_10, q7v0_11, q7v0_12, q7v0_13, q7v0_14, q7v0_15, q7v0_16, q7v0_17, q7v0_18, e_X7_digitOf]
def g_X7_railOf_2 (s : ryS) : Nat → Nat → Int32 → Int32 → Option (Int32)
  | 0, _, _, _ => none
  | n + 1, v0, v1, v2 =>
    if v2 < (s.1 v0 1) then
      (rhck (0 ≤ (v2).toInt ∧ (v2).toInt < (5 : Nat)) <|
      if ((rhus (s.1 ((v0 + 3)) v2.toNatClampNeg) v1) &&& 1) = 0 then
        (let x1 : Int32 := v2 + 1
        g_X7_railOf_2 s n v0 v1 x1)
      else
        some v2)
    else
      some ((-1))
def g_X7_railOf (s : ryS) (v0 : Nat) (v1 : Int32) : Option (Int32) :=
    g_X7_railOf_2 s rhFU v0 v1 0
set_option maxHeartbeats 400000 in
set_option maxRecDepth 100000 in
theorem e_X7_railOf_2 {Γ : rhG} {R : Nat → Nat → Nat} {v0 : Nat} (hO_7_v0 : Sh7 Γ R v0) {s : ryS} : ∀ (n : Nat) (v1 : Int32) (v2 : Int32), f_X7_railOf_2 Γ (ryM s R) n v0 v1 v2 = g_X7_railOf_2 s n v0 v1 v2 := by
  have z7v0 := hO_7_v0
  obtain ⟨q7v0_0, q7v0_1, q7v0_2, q7v0_3, q7v0_4, q7v0_5, q7v0_6, q7v0_7, q7v0_8, q7v0_9, q7v0_10, q7v0_11, q7v0_12, q7v0_13, q7v0_14, q7v0_15, q7v0_16, q7v0_17, q7v0_18⟩ := z7v0
  intro n
  induction n with
  | zero => intros; simp only [f_X7_railOf_2, g_X7_railOf_2, Option.map_none]
  | succ n ih =>
    intros
    simp only [f_X7_railOf_2, g_X7_railOf_2, rhck, ryM_1, ryM_2, ryM_3, ry_si, ry_sl, if_true, ry_ck, Option.map_some, Option.map_none, ry_ite, ry_bm, ry_mb, Nat.add_assoc, Nat.reduceAdd, Option.some_bind, Option.bind_some, q7v0_0, q7v0_1, q7v0_2, q7v0_3, q7v0_4, q7v0_5, q7v0_6, q7v0_7, q7v0_8, q7v0_9, q7v0_10, q7v0_11, q7v0_12, q7v0_13, q7v0_14, q7v0_15, q7v0_16, q7v0_17, q7v0_18, ih]
set_option maxHeartbeats 400000 in
set_option maxRecDepth 100000 in
theorem e_X7_railOf {Γ : rhG} {R : Nat → Nat → Nat} {v0 : Nat} (hO_7_v0 : Sh7 Γ R v0) {s : ryS} : ∀ (v1 : Int32), f_X7_railOf Γ (ryM s R) v0 v1 = g_X7_railOf s v0 v1 := by
  have z7v0 := hO_7_v0
  obtain ⟨q7v0_0, q7v0_1, q7v0_2, q7v0_3, q7v0_4, q7v0_5, q7v0_6, q7v0_7, q7v0_8, q7v0_9, q7v0_10, q7v0_11, q7v0_12, q7v0_13, q7v0_14, q7v0_15, q7v0_16, q7v0_17, q7v0_18⟩ := z7v0
  intros
  simp only [f_X7_railOf, g_X7_railOf, rhck, ryM_1, ryM_2, ryM_3, ry_si, ry_sl, if_true, ry_ck, Option.map_some, Option.map_none, ry_ite, ry_bm, ry_mb, Nat.add_assoc, Nat.reduceAdd, Option.some_bind, Option.bind_some, q7v0_0, q7v0_1, q7v0_2, q7v0_3, q7v0_4, q7v0_5, q7v0_6, q7v0_7, q7v0_8, q7v0_9, q7v0_10, q7v0_11, q7v0_12, q7v0_13, q7v0_14, q7v0_15, q7v0_16, q7v0_17, q7v0_18, e_X7_railOf_2 hO_7_v0]
def g_X7_aheadOf_18 (s : ryS) : Nat → Nat → Int32 → Int32 → Int32 → Int32 → Option (Int32)
  | 0, _, _, _, _, _ => none
  | n + 1, v0, v1, v2, v3, v4 =>
    (g_X7_count s v0 v2).bind fun r2 =>
    if v4 < r2 then
      ((g_X7_houseAt s v0 v2 v4).bind fun r3 =>
      if r3 = v1 then
        (some v3)
      else
        let x4 : Int32 := v3 + 1
        let x5 : Int32 := v4 + 1
        g_X7_aheadOf_18 s n v0 v1 v2 x4 x5)
    else
      some v3
def g_X7_aheadOf (s : ryS) (v0 : Nat) (v1 : Int32) : Option (Int32) :=
    (g_X7_railOf s v0 v1).bind fun r1 =>
    if r1 = ((-1)) then
      (some ((-1)))
    else
      g_X7_aheadOf_18 s rhFU v0 v1 r1 0 0
set_option maxHeartbeats 400000 in
set_option maxRecDepth 100000 in
theorem e_X7_aheadOf_18 {Γ : rhG} {R : Nat → Nat → Nat} {v0 : Nat} (hO_7_v0 : Sh7 Γ R v0) {s : ryS} : ∀ (n : Nat) (v1 : Int32) (v2 : Int32) (v3 : Int32) (v4 : Int32), f_X7_aheadOf_18 Γ (ryM s R) n v0 v1 v2 v3 v4 = g_X7_aheadOf_18 s n v0 v1 v2 v3 v4 := by
  have z7v0 := hO_7_v0
  obtain ⟨q7v0_0, q7v0_1, q7v0_2, q7v0_3, q7v0_4, q7v0_5, q7v0_6, q7v0_7, q7v0_8, q7v0_9, q7v0_10, q7v0_11, q7v0_12, q7v0_13, q7v0_14, q7v0_15, q7v0_16, q7v0_17, q7v0_18⟩ := z7v0
  intro n
  induction n with
  | zero => intros; simp only [f_X7_aheadOf_18, g_X7_aheadOf_18, Option.map_none]
  | succ n ih =>
    intros
    simp only [f_X7_aheadOf_18, g_X7_aheadOf_18, rhck, ryM_1, ryM_2, ryM_3, ry_si, ry_sl, if_true, ry_ck, Option.map_some, Option.map_none, ry_ite, ry_bm, ry_mb, Nat.add_assoc, Nat.reduceAdd, Option.some_bind, Option.bind_some, q7v0_0, q7v0_1, q7v0_2, q7v0_3, q7v0_4, q7v0_5, q7v0_6, q7v0_7, q7v0_8, q7v0_9, q7v0_10, q7v0_11, q7v0_12, q7v0_13, q7v0_14, q7v0_15, q7v0_16, q7v0_17, q7v0_18, e_X7_count hO_7_v0, e_X7_houseAt hO_7_v0, ih]
set_option maxHeartbeats 400000 in
set_option maxRecDepth 100000 in
theorem e_X7_aheadOf {Γ : rhG} {R : Nat → Nat → Nat} {v0 : Nat} (hO_7_v0 : Sh7 Γ R v0) {s : ryS} : ∀ (v1 : Int32), f_X7_aheadOf Γ (ryM s R) v0 v1 = g_X7_aheadOf s v0 v1 := by
  have z7v0 := hO_7_v0
  obtain ⟨q7v0_0, q7v0_1, q7v0_2, q7v0_3, q7v0_4, q7v0_5, q7v0_6, q7v0_7, q7v0_8, q7v0_9, q7v0_10, q7v0_11, q7v0_12, q7v0_13, q7v0_14, q7v0_15, q7v0_16, q7v0_17, q7v0_18⟩ := z7v0
  intros
  simp only [f_X7_aheadOf, g_X7_aheadOf, rhck, ryM_1, ryM_2, ryM_3, ry_si, ry_sl, if_true, ry_ck, Option.map_some, Option.map_none, ry_ite, ry_bm, ry_mb, Nat.add_assoc, Nat.reduceAdd, Option.some_bind, Option.bind_some, q7v0_0, q7v0_1, q7v0_2, q7v0_3, q7v0_4, q7v0_5, q7v0_6, q7v0_7, q7v0_8, q7v0_9, q7v0_10, q7v0_11, q7v0_12, q7v0_13, q7v0_14, q7v0_15, q7v0_16, q7v0_17, q7v0_18, e_X7_railOf hO_7_v0, e_X7_aheadOf_18 hO_7_v0]
def g_X7_last_12 (s : ryS) : Nat → Nat → Int32 → Int32 → Int32 → Option (Int32)
  | 0, _, _, _, _ => none
  | n + 1, v0, v1, v3, v4 =>
    rhck (0 ≤ (v1).toInt ∧ (v1).toInt < (5 : Nat)) <|
    if v4 < (s.1 ((v0 + 2)) v1.toNatClampNeg) then
      ((g_X7_digitOf s (s.2 v0 0) v4).bind fun r2 =>
      let x3 := v3 ||| (1 <<< (r2 &&& 31))
      let x4 : Int32 := v4 + 1
      g_X7_last_12 s n v0 v1 x3 x4)
    else
      some v3
def g_X7_last (s : ryS) (v0 : Nat) (v1 : Int32) (v2 : Int32) : Option (Int32) :=
    rhck (0 ≤ (v1).toInt ∧ (v1).toInt < (5 : Nat)) <|
    let x1 := (s.1 ((v0 + 2)) v1.toNatClampNeg) - v2
    g_X7_last_12 s rhFU v0 v1 0 x1
set_option maxHeartbeats 400000 in
set_option maxRecDepth 100000 in
theorem e_X7_last_12 {Γ : rhG} {R : Nat → Nat → Nat} {v0 : Nat} (hO_7_v0 : Sh7 Γ R v0) {s : ryS} : ∀ (n : Nat) (v1 : Int32) (v3 : Int32) (v4 : Int32), f_X7_last_12 Γ (ryM s R) n v0 v1 v3 v4 = g_X7_last_12 s n v0 v1 v3 v4 := by
  have z7v0 := hO_7_v0
  obtain ⟨q7v0_0, q7v0_1, q7v0_2, q7v0_3, q7v0_4, q7v0_5, q7v0_6, q7v0_7, q7v0_8, q7v0_9, q7v0_10, q7v0_11, q7v0_12, q7v0_13, q7v0_14, q7v0_15, q7v0_16, q7v0_17, q7v0_18⟩ := z7v0
  intro n
  induction n with
  | zero => intros; simp only [f_X7_last_12, g_X7_last_12, Option.map_none]
  | succ n ih =>
    intros
    simp only [f_X7_last_12, g_X7_last_12, rhck, ryM_1, ryM_2, ryM_3, ry_si, ry_sl, if_true, ry_ck, Option.map_some, Option.map_none, ry_ite, ry_bm, ry_mb, Nat.add_assoc, Nat.reduceAdd, Option.some_bind, Option.bind_some, q7v0_0, q7v0_1, q7v0_2, q7v0_3, q7v0_4, q7v0_5, q7v0_6, q7v0_7, q7v0_8, q7v0_9, q7v0_10, q7v0_11, q7v0_12, q7v0_13, q7v0_14, q7v0_15, q7v0_16, q7v0_17, q7v0_18, e_X7_digitOf, ih]
set_option maxHeartbeats 400000 in
set_option maxRecDepth 100000 in
theorem e_X7_last {Γ : rhG} {R : Nat → Nat → Nat} {v0 : Nat} (hO_7_v0 : Sh7 Γ R v0) {s : ryS} : ∀ (v1 : Int32) (v2 : Int32), f_X7_last Γ (ryM s R) v0 v1 v2 = g_X7_last s v0 v1 v2 := by
  have z7v0 := hO_7_v0
  obtain ⟨q7v0_0, q7v0_1, q7v0_2, q7v0_3, q7v0_4, q7v0_5, q7v0_6, q7v0_7, q7v0_8, q7v0_9, q7v0_10, q7v0_11, q7v0_12, q7v0_13, q7v0_14, q7v0_15, q7v0_16, q7v0_17, q7v0_18⟩ := z7v0
  intros
  simp only [f_X7_last, g_X7_last, rhck, ryM_1, ryM_2, ryM_3, ry_si, ry_sl, if_true, ry_ck, Option.map_some, Option.map_none, ry_ite, ry_bm, ry_mb, Nat.add_assoc, Nat.reduceAdd, Option.some_bind, Option.bind_some, q7v0_0, q7v0_1, q7v0_2, q7v0_3, q7v0_4, q7v0_5, q7v0_6, q7v0_7, q7v0_8, q7v0_9, q7v0_10, q7v0_11, q7v0_12, q7v0_13, q7v0_14, q7v0_15, q7v0_16, q7v0_17, q7v0_18, e_X7_last_12 hO_7_v0]
def g_X9_asks (s : ryS) (v0 : Nat) (v1 : Int32) (v2 : Int32) (v3 : Int32) (v4 : Int32) : Option (Int32 × ryS) :=
    (g_X9_roomBeside s v0 v3 v4).bind fun r1 =>
    rhck (0 ≤ (v2).toInt ∧ (v2).toInt < (256 : Nat)) <|
    rhck (0 ≤ (v2).toInt ∧ (v2).toInt < (256 : Nat)) <|
    (g_X1_comesTo s ((v0 + 6)) v1 v2 v3 r1 (s.1 ((v0 + 3)) v2.toNatClampNeg) (s.1 ((v0 + 2)) v2.toNatClampNeg)).bind fun r2 =>
    some ((r2.1, r2.2))
set_option maxHeartbeats 400000 in
set_option maxRecDepth 100000 in
theorem e_X9_asks {Γ : rhG} {R : Nat → Nat → Nat} {v0 : Nat} (hO_9_v0 : Sh9 Γ R v0) : ∀ (s : ryS) (v1 : Int32) (v2 : Int32) (v3 : Int32) (v4 : Int32), f_X9_asks Γ (ryM s R) v0 v1 v2 v3 v4 = Option.map (fun q => (q.1, ryM q.2 R)) (g_X9_asks s v0 v1 v2 v3 v4) := by
  have z9v0 := hO_9_v0
  obtain ⟨q9v0_0, q9v0_1, q9v0_2, q9v0_3, q9v0_4, q9v0_5, q9v0_6, q9v0_7, q9v0_8, q9v0_9, q9v0_10, q9v0_11, q9v0_12, q9v0_13, q9v0_14, q9v0_15, q9v0_16, hO_1_v0⟩ := z9v0
  obtain ⟨q1v0_0, q1v0_1, q1v0_2, q1v0_3, q1v0_4, q1v0_5, q1v0_6, q1v0_7, q1v0_8, q1v0_9, q1v0_10, q1v0_11, q1v0_12⟩ := hO_1_v0
  intros
  simp only [f_X9_asks, g_X9_asks, rhck, ryM_1, ryM_2, ryM_3, ry_si, ry_sl, if_true, ry_ck, Option.map_some, Option.map_none, ry_ite, ry_bm, ry_mb, Nat.add_assoc, Nat.reduceAdd, Option.some_bind, Option.bind_some, q9v0_0, q9v0_1, q9v0_2, q9v0_3, q9v0_4, q9v0_5, q9v0_6, q9v0_7, q9v0_8, q9v0_9, q9v0_10, q9v0_11, q9v0_12, q9v0_13, q9v0_14, q9v0_15, q9v0_16, q1v0_0, q1v0_1, q1v0_2, q1v0_3, q1v0_4, q1v0_5, q1v0_6, q1v0_7, q1v0_8, q1v0_9, q1v0_10, q1v0_11, q1v0_12, e_X9_roomBeside hO_9_v0, e_X1_comesTo (sh9_1 hO_9_v0)]
def g_X11_about (t : Nat) (s : ryS) (v1 : Int32) : Option (Int32) :=
    if v1 = 0 then
      (some (s.1 t 1))
    else
    if v1 = 1 then
      (some (s.1 t 0))
    else
    if v1 = 2 then
      (some (s.1 47 1))
    else
    if v1 = 3 then
      (some (s.1 49 1))
    else
    if v1 = 4 then
      (some (s.1 1 11))
    else
    if v1 = 5 then
      (some (s.1 55 0))
    else
    if v1 = 6 then
      (some (s.1 1 16))
    else
    if v1 = 7 then
      (some (s.1 1 1))
    else
    if v1 = 8 then
      (some (s.1 47 2))
    else
    if v1 = 9 then
      (some (s.1 ((t + 6)) 0))
    else
    if v1 = 10 then
      (some (s.1 51 1))
    else
    some ((-1))
set_option maxHeartbeats 400000 in
set_option maxRecDepth 100000 in
theorem e_X11_about {Γ : rhG} {R : Nat → Nat → Nat} {t : Nat} (hO_9_t : Sh9 Γ R t) (hS : ShS Γ R) (hb_1_3 : R 1 3 = t) {s : ryS} : ∀ (v1 : Int32), f_X11_about Γ (ryM s R) 1 v1 = g_X11_about t s v1 := by
  have z9t := hO_9_t
  obtain ⟨q9t_0, q9t_1, q9t_2, q9t_3, q9t_4, q9t_5, q9t_6, q9t_7, q9t_8, q9t_9, q9t_10, q9t_11, q9t_12, q9t_13, q9t_14, q9t_15, q9t_16, hO_1_t⟩ := z9t
  obtain ⟨q1t_0, q1t_1, q1t_2, q1t_3, q1t_4, q1t_5, q1t_6, q1t_7, q1t_8, q1t_9, q1t_10, q1t_11, q1t_12⟩ := hO_1_t
  intros
  simp only [f_X11_about, g_X11_about, rhck, ryM_1, ryM_2, ryM_3, ry_si, ry_sl, if_true, ry_ck, Option.map_some, Option.map_none, ry_ite, ry_bm, ry_mb, Nat.add_assoc, Nat.reduceAdd, Option.some_bind, Option.bind_some, hb_1_3, ssk_1 hS, ssk_47 hS, ssk_49 hS, ssk_51 hS, ssk_55 hS, ssr_1_14 hS, ssr_1_7 hS, ssr_1_8 hS, ssr_1_9 hS, q9t_0, q9t_1, q9t_2, q9t_3, q9t_4, q9t_5, q9t_6, q9t_7, q9t_8, q9t_9, q9t_10, q9t_11, q9t_12, q9t_13, q9t_14, q9t_15, q9t_16, q1t_0, q1t_1, q1t_2, q1t_3, q1t_4, q1t_5, q1t_6, q1t_7, q1t_8, q1t_9, q1t_10, q1t_11, q1t_12]
def g_X11_isRail (t : Nat) (s : ryS) (v1 : Int32) : Option (Int32) :=
    if v1 < 0 then
      (some 0)
    else
      if v1 < (s.1 t 0) then
        (some 1)
      else
        some 0
set_option maxHeartbeats 400000 in
set_option maxRecDepth 100000 in
theorem e_X11_isRail {Γ : rhG} {R : Nat → Nat → Nat} {t : Nat} (hO_9_t : Sh9 Γ R t) (hS : ShS Γ R) (hb_1_3 : R 1 3 = t) {s : ryS} : ∀ (v1 : Int32), f_X11_isRail Γ (ryM s R) 1 v1 = g_X11_isRail t s v1 := by
  have z9t := hO_9_t
  obtain ⟨q9t_0, q9t_1, q9t_2, q9t_3, q9t_4, q9t_5, q9t_6, q9t_7, q9t_8, q9t_9, q9t_10, q9t_11, q9t_12, q9t_13, q9t_14, q9t_15, q9t_16, hO_1_t⟩ := z9t
  obtain ⟨q1t_0, q1t_1, q1t_2, q1t_3, q1t_4, q1t_5, q1t_6, q1t_7, q1t_8, q1t_9, q1t_10, q1t_11, q1t_12⟩ := hO_1_t
  intros
  simp only [f_X11_isRail, g_X11_isRail, rhck, ryM_1, ryM_2, ryM_3, ry_si, ry_sl, if_true, ry_ck, Option.map_some, Option.map_none, ry_ite, ry_bm, ry_mb, Nat.add_assoc, Nat.reduceAdd, Option.some_bind, Option.bind_some, hb_1_3, ssk_1 hS, q9t_0, q9t_1, q9t_2, q9t_3, q9t_4, q9t_5, q9t_6, q9t_7, q9t_8, q9t_9, q9t_10, q9t_11, q9t_12, q9t_13, q9t_14, q9t_15, q9t_16, q1t_0, q1t_1, q1t_2, q1t_3, q1t_4, q1t_5, q1t_6, q1t_7, q1t_8, q1t_9, q1t_10, q1t_11, q1t_12]
def g_X11_areUnlikeRails (t : Nat) (s : ryS) (v1 : Int32) (v2 : Int32) : Option (Int32) :=
    (g_X11_isRail t s v1).bind fun r1 =>
    if r1 = 0 then
      (some 0)
    else
      (g_X11_isRail t s v2).bind fun r2 =>
      if r2 = 0 then
        (some 0)
      else
        if v1 = v2 then
          (some 0)
        else
          some 1
set_option maxHeartbeats 400000 in
set_option maxRecDepth 100000 in
theorem e_X11_areUnlikeRails {Γ : rhG} {R : Nat → Nat → Nat} {t : Nat} (hO_9_t : Sh9 Γ R t) (hS : ShS Γ R) (hb_1_3 : R 1 3 = t) {s : ryS} : ∀ (v1 : Int32) (v2 : Int32), f_X11_areUnlikeRails Γ (ryM s R) 1 v1 v2 = g_X11_areUnlikeRails t s v1 v2 := by
  have z9t := hO_9_t
  obtain ⟨q9t_0, q9t_1, q9t_2, q9t_3, q9t_4, q9t_5, q9t_6, q9t_7, q9t_8, q9t_9, q9t_10, q9t_11, q9t_12, q9t_13, q9t_14, q9t_15, q9t_16, hO_1_t⟩ := z9t
  obtain ⟨q1t_0, q1t_1, q1t_2, q1t_3, q1t_4, q1t_5, q1t_6, q1t_7, q1t_8, q1t_9, q1t_10, q1t_11, q1t_12⟩ := hO_1_t
  intros
  simp only [f_X11_areUnlikeRails, g_X11_areUnlikeRails, rhck, ryM_1, ryM_2, ryM_3, ry_si, ry_sl, if_true, ry_ck, Option.map_some, Option.map_none, ry_ite, ry_bm, ry_mb, Nat.add_assoc, Nat.reduceAdd, Option.some_bind, Option.bind_some, ssk_1 hS, q9t_0, q9t_1, q9t_2, q9t_3, q9t_4, q9t_5, q9t_6, q9t_7, q9t_8, q9t_9, q9t_10, q9t_11, q9t_12, q9t_13, q9t_14, q9t_15, q9t_16, q1t_0, q1t_1, q1t_2, q1t_3, q1t_4, q1t_5, q1t_6, q1t_7, q1t_8, q1t_9, q1t_10, q1t_11, q1t_12, e_X11_isRail hO_9_t hS hb_1_3, e_X11_isRail hO_9_t hS hb_1_3]
def g_X11_canBeFrom (t : Nat) (s : ryS) (v1 : Nat) (v2 : Int32) (v3 : Int32) (v4 : Int32) : Option (Int32) :=
    (g_X11_areUnlikeRails t s v2 v4).bind fun r1 =>
    if r1 = 0 then
      (some 0)
    else
      if v3 < 1 then
        (some 0)
      else
        (g_X7_count s v1 v2).bind fun r2 =>
        if r2 < v3 then
          (some 0)
        else
          some 1
set_option maxHeartbeats 400000 in
set_option maxRecDepth 100000 in
theorem e_X11_canBeFrom {Γ : rhG} {R : Nat → Nat → Nat} {t : Nat} {v1 : Nat} (hO_7_v1 : Sh7 Γ R v1) (hO_9_t : Sh9 Γ R t) (hS : ShS Γ R) (hb_1_3 : R 1 3 = t) {s : ryS} : ∀ (v2 : Int32) (v3 : Int32) (v4 : Int32), f_X11_canBeFrom Γ (ryM s R) 1 v1 v2 v3 v4 = g_X11_canBeFrom t s v1 v2 v3 v4 := by
  have z7v1 := hO_7_v1
  obtain ⟨q7v1_0, q7v1_1, q7v1_2, q7v1_3, q7v1_4, q7v1_5, q7v1_6, q7v1_7, q7v1_8, q7v1_9, q7v1_10, q7v1_11, q7v1_12, q7v1_13, q7v1_14, q7v1_15, q7v1_16, q7v1_17, q7v1_18⟩ := z7v1
  have z9t := hO_9_t
  obtain ⟨q9t_0, q9t_1, q9t_2, q9t_3, q9t_4, q9t_5, q9t_6, q9t_7, q9t_8, q9t_9, q9t_10, q9t_11, q9t_12, q9t_13, q9t_14, q9t_15, q9t_16, hO_1_t⟩ := z9t
  obtain ⟨q1t_0, q1t_1, q1t_2, q1t_3, q1t_4, q1t_5, q1t_6, q1t_7, q1t_8, q1t_9, q1t_10, q1t_11, q1t_12⟩ := hO_1_t
  intros
  simp only [f_X11_canBeFrom, g_X11_canBeFrom, rhck, ryM_1, ryM_2, ryM_3, ry_si, ry_sl, if_true, ry_ck, Option.map_some, Option.map_none, ry_ite, ry_bm, ry_mb, Nat.add_assoc, Nat.reduceAdd, Option.some_bind, Option.bind_some, ssk_1 hS, q7v1_0, q7v1_1, q7v1_2, q7v1_3, q7v1_4, q7v1_5, q7v1_6, q7v1_7, q7v1_8, q7v1_9, q7v1_10, q7v1_11, q7v1_12, q7v1_13, q7v1_14, q7v1_15, q7v1_16, q7v1_17, q7v1_18, q9t_0, q9t_1, q9t_2, q9t_3, q9t_4, q9t_5, q9t_6, q9t_7, q9t_8, q9t_9, q9t_10, q9t_11, q9t_12, q9t_13, q9t_14, q9t_15, q9t_16, q1t_0, q1t_1, q1t_2, q1t_3, q1t_4, q1t_5, q1t_6, q1t_7, q1t_8, q1t_9, q1t_10, q1t_11, q1t_12, e_X11_areUnlikeRails hO_9_t hS hb_1_3, e_X7_count hO_7_v1]
