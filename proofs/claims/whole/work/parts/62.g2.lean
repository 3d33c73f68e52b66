def g_J6_bitCount_0f7a4 (s : ryS) (v0 : Int32) : Option (Int32) :=
    let x1 := v0 - ((rhus v0 1) &&& 1431655765)
    let x2 := (x1 &&& 858993459) + ((rhus x1 2) &&& 858993459)
    let x3 := (x2 + (rhus x2 4)) &&& 252645135
    let x4 := x3 + (rhus x3 8)
    let x5 := x4 + (rhus x4 16)
    some (x5 &&& 63)
set_option maxHeartbeats 400000 in
set_option maxRecDepth 100000 in
theorem e_J6_bitCount_0f7a4 {Γ : rhG} {R : Nat → Nat → Nat} {s : ryS} : ∀ (v0 : Int32), f_J6_bitCount_0f7a4 Γ (ryM s R) v0 = g_J6_bitCount_0f7a4 s v0 := by
  intros
  simp only [f_J6_bitCount_0f7a4, g_J6_bitCount_0f7a4, rhck, ryM_1, ryM_2, ryM_3, ry_si, ry_sl, if_true, ry_ck, Option.map_some, Option.map_none, ry_ite, ry_bm, ry_mb, Nat.add_assoc, Nat.reduceAdd, Option.some_bind, Option.bind_some]
def g_J7_fill_53178_5 (l0 : Nat) : Nat → ryS → Nat → Int32 → Int32 → Int32 → Option (ryS)
  | 0, _, _, _, _, _ => none
  | n + 1, s, v0, v1, v2, v3 =>
    if v2 < v3 then
      (rhck (0 ≤ (v2).toInt ∧ (v2).toInt < l0) <|
      let s2 := rysi s v0 (v2 : Int32).toNatClampNeg v1
      let x3 : Int32 := v2 + 1
      g_J7_fill_53178_5 l0 n s2 v0 v1 x3 v3)
    else
      some s
def g_J7_fill_53178 (l0 : Nat) (s : ryS) (v0 : Nat) (v1 : Int32) : Option (ryS) :=
    let x1 := Int32.ofNat l0
    g_J7_fill_53178_5 l0 rhFU s v0 v1 0 x1
set_option maxHeartbeats 400000 in
set_option maxRecDepth 100000 in
theorem e_J7_fill_53178_5 {Γ : rhG} {R : Nat → Nat → Nat} {l0 : Nat} {v0 : Nat} (ha_0 : Γ.2.2.1 v0 = 15 ∧ Γ.2.2.2 v0 = l0) : ∀ (n : Nat) (s : ryS) (v1 : Int32) (v2 : Int32) (v3 : Int32), f_J7_fill_53178_5 Γ n (ryM s R) v0 v1 v2 v3 = Option.map (fun s => ryM s R) (g_J7_fill_53178_5 l0 n s v0 v1 v2 v3) := by
  intro n
  induction n with
  | zero => intros; simp only [f_J7_fill_53178_5, g_J7_fill_53178_5, Option.map_none]
  | succ n ih =>
    intros
    simp only [f_J7_fill_53178_5, g_J7_fill_53178_5, rhck, ryM_1, ryM_2, ryM_3, ry_si, ry_sl, if_true, ry_ck, Option.map_some, Option.map_none, ry_ite, ry_bm, ry_mb, Nat.add_assoc, Nat.reduceAdd, Option.some_bind, Option.bind_some, ha_0.1, ha_0.2, ih]
set_option maxHeartbeats 400000 in
set_option maxRecDepth 100000 in
theorem e_J7_fill_53178 {Γ : rhG} {R : Nat → Nat → Nat} {l0 : Nat} {v0 : Nat} (ha_0 : Γ.2.2.1 v0 = 15 ∧ Γ.2.2.2 v0 = l0) : ∀ (s : ryS) (v1 : Int32), f_J7_fill_53178 Γ (ryM s R) v0 v1 = Option.map (fun s => ryM s R) (g_J7_fill_53178 l0 s v0 v1) := by
  intros
  simp only [f_J7_fill_53178, g_J7_fill_53178, rhck, ryM_1, ryM_2, ryM_3, ry_si, ry_sl, if_true, ry_ck, Option.map_some, Option.map_none, ry_ite, ry_bm, ry_mb, Nat.add_assoc, Nat.reduceAdd, Option.some_bind, Option.bind_some, ha_0.1, ha_0.2, e_J7_fill_53178_5 ha_0]
def g_J7_rangeCheck_23922 (s : ryS) (v0 : Int32) (v1 : Int32) (v2 : Int32) : Option (Unit) :=
    if v2 < v1 then
      (none)
    else
      if v1 < 0 then
        (none)
      else
        if v0 < v2 then
          (none)
        else
          some (())
set_option maxHeartbeats 400000 in
set_option maxRecDepth 100000 in
theorem e_J7_rangeCheck_23922 {Γ : rhG} {R : Nat → Nat → Nat} {s : ryS} : ∀ (v0 : Int32) (v1 : Int32) (v2 : Int32), f_J7_rangeCheck_23922 Γ (ryM s R) v0 v1 v2 = g_J7_rangeCheck_23922 s v0 v1 v2 := by
  intros
  simp only [f_J7_rangeCheck_23922, g_J7_rangeCheck_23922, rhck, ryM_1, ryM_2, ryM_3, ry_si, ry_sl, if_true, ry_ck, Option.map_some, Option.map_none, ry_ite, ry_bm, ry_mb, Nat.add_assoc, Nat.reduceAdd, Option.some_bind, Option.bind_some]
def g_J7_fill_eb02e_10 (l0 : Nat) : Nat → ryS → Nat → Int32 → Int32 → Int32 → Option (ryS)
  | 0, _, _, _, _, _ => none
  | n + 1, s, v0, v2, v3, v4 =>
    if v4 < v2 then
      (rhck (0 ≤ (v4).toInt ∧ (v4).toInt < l0) <|
      let s2 := rysi s v0 (v4 : Int32).toNatClampNeg ((vp_nar .byte v3))
      let x3 : Int32 := v4 + 1
      g_J7_fill_eb02e_10 l0 n s2 v0 v2 v3 x3)
    else
      some s
def g_J7_fill_eb02e (l0 : Nat) (s : ryS) (v0 : Nat) (v1 : Int32) (v2 : Int32) (v3 : Int32) : Option (ryS) :=
    (g_J7_rangeCheck_23922 s (Int32.ofNat l0) v1 v2).bind fun r1 =>
    g_J7_fill_eb02e_10 l0 rhFU s v0 v2 v3 v1
set_option maxHeartbeats 400000 in
set_option maxRecDepth 100000 in
theorem e_J7_fill_eb02e_10 {Γ : rhG} {R : Nat → Nat → Nat} {l0 : Nat} {v0 : Nat} (ha_0 : Γ.2.2.1 v0 = 14 ∧ Γ.2.2.2 v0 = l0) : ∀ (n : Nat) (s : ryS) (v2 : Int32) (v3 : Int32) (v4 : Int32), f_J7_fill_eb02e_10 Γ n (ryM s R) v0 v2 v3 v4 = Option.map (fun s => ryM s R) (g_J7_fill_eb02e_10 l0 n s v0 v2 v3 v4) := by
  intro n
  induction n with
  | zero => intros; simp only [f_J7_fill_eb02e_10, g_J7_fill_eb02e_10, Option.map_none]
  | succ n ih =>
    intros
    simp only [f_J7_fill_eb02e_10, g_J7_fill_eb02e_10, rhck, ryM_1, ryM_2, ryM_3, ry_si, ry_sl, if_true, ry_ck, Option.map_some, Option.map_none, ry_ite, ry_bm, ry_mb, Nat.add_assoc, Nat.reduceAdd, Option.some_bind, Option.bind_some, ha_0.1, ha_0.2, ih]
set_option maxHeartbeats 400000 in
set_option maxRecDepth 100000 in
theorem e_J7_fill_eb02e {Γ : rhG} {R : Nat → Nat → Nat} {l0 : Nat} {v0 : Nat} (ha_0 : Γ.2.2.1 v0 = 14 ∧ Γ.2.2.2 v0 = l0) : ∀ (s : ryS) (v1 : Int32) (v2 : Int32) (v3 : Int32), f_J7_fill_eb02e Γ (ryM s R) v0 v1 v2 v3 = Option.map (fun s => ryM s R) (g_J7_fill_eb02e l0 s v0 v1 v2 v3) := by
  intros
  simp only [f_J7_fill_eb02e, g_J7_fill_eb02e, rhck, ryM_1, ryM_2, ryM_3, ry_si, ry_sl, if_true, ry_ck, Option.map_some, Option.map_none, ry_ite, ry_bm, ry_mb, Nat.add_assoc, Nat.reduceAdd, Option.some_bind, Option.bind_some, ha_0.1, ha_0.2, e_J7_rangeCheck_23922, e_J7_fill_eb02e_10 ha_0]
def g_J7_fill_fda19_10 (l0 : Nat) : Nat → ryS → Nat → Int32 → Int32 → Int32 → Option (ryS)
  | 0, _, _, _, _, _ => none
  | n + 1, s, v0, v2, v3, v4 =>
    if v4 < v2 then
      (rhck (0 ≤ (v4).toInt ∧ (v4).toInt < l0) <|
      let s2 := rysi s v0 (v4 : Int32).toNatClampNeg v3
      let x3 : Int32 := v4 + 1
      g_J7_fill_fda19_10 l0 n s2 v0 v2 v3 x3)
    else
      some s
def g_J7_fill_fda19 (l0 : Nat) (s : ryS) (v0 : Nat) (v1 : Int32) (v2 : Int32) (v3 : Int32) : Option (ryS) :=
    (g_J7_rangeCheck_23922 s (Int32.ofNat l0) v1 v2).bind fun r1 =>
    g_J7_fill_fda19_10 l0 rhFU s v0 v2 v3 v1
set_option maxHeartbeats 400000 in
set_option maxRecDepth 100000 in
theorem e_J7_fill_fda19_10 {Γ : rhG} {R : Nat → Nat → Nat} {l0 : Nat} {v0 : Nat} (ha_0 : Γ.2.2.1 v0 = 15 ∧ Γ.2.2.2 v0 = l0) : ∀ (n : Nat) (s : ryS) (v2 : Int32) (v3 : Int32) (v4 : Int32), f_J7_fill_fda19_10 Γ n (ryM s R) v0 v2 v3 v4 = Option.map (fun s => ryM s R) (g_J7_fill_fda19_10 l0 n s v0 v2 v3 v4) := by
  intro n
  induction n with
  | zero => intros; simp only [f_J7_fill_fda19_10, g_J7_fill_fda19_10, Option.map_none]
  | succ n ih =>
    intros
    simp only [f_J7_fill_fda19_10, g_J7_fill_fda19_10, rhck, ryM_1, ryM_2, ryM_3, ry_si, ry_sl, if_true, ry_ck, Option.map_some, Option.map_none, ry_ite, ry_bm, ry_mb, Nat.add_assoc, Nat.reduceAdd, Option.some_bind, Option.bind_some, ha_0.1, ha_0.2, ih]
set_option maxHeartbeats 400000 in
set_option maxRecDepth 100000 in
theorem e_J7_fill_fda19 {Γ : rhG} {R : Nat → Nat → Nat} {l0 : Nat} {v0 : Nat} (ha_0 : Γ.2.2.1 v0 = 15 ∧ Γ.2.2.2 v0 = l0) : ∀ (s : ryS) (v1 : Int32) (v2 : Int32) (v3 : Int32), f_J7_fill_fda19 Γ (ryM s R) v0 v1 v2 v3 = Option.map (fun s => ryM s R) (g_J7_fill_fda19 l0 s v0 v1 v2 v3) := by
  intros
  simp only [f_J7_fill_fda19, g_J7_fill_fda19, rhck, ryM_1, ryM_2, ryM_3, ry_si, ry_sl, if_true, ry_ck, Option.map_some, Option.map_none, ry_ite, ry_bm, ry_mb, Nat.add_assoc, Nat.reduceAdd, Option.some_bind, Option.bind_some, ha_0.1, ha_0.2, e_J7_rangeCheck_23922, e_J7_fill_fda19_10 ha_0]
def g_X0_lead_36 (n : Nat) (s : ryS) (v0 : Nat) (w1 : Int32) (w2 : Int32) : Option (ryS) :=
    rhck (0 ≤ (w1).toInt ∧ (w1).toInt < n) <|
    let s3 := rysi s ((v0 + 4)) (w1 : Int32).toNatClampNeg w2
    some s3
def g_X0_lead (n : Nat) (s : ryS) (v0 : Nat) (v1 : Int32) (v2 : Int32) (v3 : Int32) : Option (ryS) :=
    rhck (0 ≤ (v1).toInt ∧ (v1).toInt < n) <|
    let s1 := rysi s ((v0 + 2)) (v1 : Int32).toNatClampNeg v2
    rhck (0 ≤ (v1).toInt ∧ (v1).toInt < n) <|
    let s2 := rysi s1 ((v0 + 3)) (v1 : Int32).toNatClampNeg v3
    if v2 = ((-1)) then
      (g_X0_lead_36 n s2 v0 v1 0)
    else
      rhck (0 ≤ (v2).toInt ∧ (v2).toInt < n) <|
      g_X0_lead_36 n s2 v0 v1 ((s2.1 ((v0 + 4)) v2.toNatClampNeg) + 1)
set_option maxHeartbeats 400000 in
set_option maxRecDepth 100000 in
theorem e_X0_lead_36 {Γ : rhG} {R : Nat → Nat → Nat} {n : Nat} {v0 : Nat} (hO_0_v0 : Sh0 Γ R v0 n tb) : ∀ (s : ryS) (w1 : Int32) (w2 : Int32), f_X0_lead_36 Γ (ryM s R) ((v0 + 4)) w1 w2 = Option.map (fun s => ryM s R) (g_X0_lead_36 n s v0 w1 w2) := by
  have z0v0 := hO_0_v0
  obtain ⟨q0v0_0, q0v0_1, q0v0_2, q0v0_3, q0v0_4, q0v0_5, q0v0_6, q0v0_7, q0v0_8, q0v0_9, q0v0_10, q0v0_11, q0v0_12, q0v0_13, q0v0_14, q0v0_15⟩ := z0v0
  intros
  simp only [f_X0_lead_36, g_X0_lead_36, rhck, ryM_1, ryM_2, ryM_3, ry_si, ry_sl, if_true, ry_ck, Option.map_some, Option.map_none, ry_ite, ry_bm, ry_mb, Nat.add_assoc, Nat.reduceAdd, Option.some_bind, Option.bind_some, q0v0_0, q0v0_1, q0v0_2, q0v0_3, q0v0_4, q0v0_5, q0v0_6, q0v0_7, q0v0_8, q0v0_9, q0v0_10, q0v0_11, q0v0_12, q0v0_13, q0v0_14, q0v0_15]
set_option maxHeartbeats 400000 in
set_option maxRecDepth 100000 in
theorem e_X0_lead {Γ : rhG} {R : Nat → Nat → Nat} {n : Nat} {v0 : Nat} (hO_0_v0 : Sh0 Γ R v0 n tb) : ∀ (s : ryS) (v1 : Int32) (v2 : Int32) (v3 : Int32), f_X0_lead Γ (ryM s R) v0 v1 v2 v3 = Option.map (fun s => ryM s R) (g_X0_lead n s v0 v1 v2 v3) := by
  have z0v0 := hO_0_v0
  obtain ⟨q0v0_0, q0v0_1, q0v0_2, q0v0_3, q0v0_4, q0v0_5, q0v0_6, q0v0_7, q0v0_8, q0v0_9, q0v0_10, q0v0_11, q0v0_12, q0v0_13, q0v0_14, q0v0_15⟩ := z0v0
  intros
  simp only [f_X0_lead, g_X0_lead, rhck, ryM_1, ryM_2, ryM_3, ry_si, ry_sl, if_true, ry_ck, Option.map_some, Option.map_none, ry_ite, ry_bm, ry_mb, Nat.add_assoc, Nat.reduceAdd, Option.some_bind, Option.bind_some, q0v0_0, q0v0_1, q0v0_2, q0v0_3, q0v0_4, q0v0_5, q0v0_6, q0v0_7, q0v0_8, q0v0_9, q0v0_10, q0v0_11, q0v0_12, q0v0_13, q0v0_14, q0v0_15, e_X0_lead_36 hO_0_v0]
def g_X0_add (n : Nat) (tb : Nat) (s : ryS) (v0 : Nat) (v1 : Int64) (v3 : Int32) (v4 : Int32) : Option (Int32 × ryS) :=
    if (s.1 v0 0) < (Int32.ofNat n) then
      (if (s.1 v0 7) < 0 then
        (some (((-1), s)))
      else
        if (s.1 v0 7) < (Int32.ofNat tb) then
          (let x1 := s.1 v0 0
          let s2 := rysi s v0 0 ((s.1 v0 0) + 1)
          rhck (0 ≤ (x1).toInt ∧ (x1).toInt < n) <|
          let s3 := rysl s2 ((v0 + 1)) (x1 : Int32).toNatClampNeg v1
          rhck (0 ≤ (s3.1 v0 7).toInt ∧ (s3.1 v0 7).toInt < tb) <|
          let s4 := rysi s3 ((v0 + 5)) (s3.1 v0 7 : Int32).toNatClampNeg ((x1 + 1))
          (g_X0_lead n s4 v0 x1 v3 v4).bind fun r5 =>
          some ((x1, r5)))
        else
          some (((-1), s)))
    else
      some (((-1), s))
set_option maxHeartbeats 400000 in
set_option maxRecDepth 100000 in
theorem e_X0_add {Γ : rhG} {R : Nat → Nat → Nat} {n : Nat} {tb : Nat} {v0 : Nat} (hO_0_v0 : Sh0 Γ R v0 n tb) : ∀ (s : ryS) (v1 : Int64) (v3 : Int32) (v4 : Int32), f_X0_add Γ (ryM s R) v0 v1 v3 v4 = Option.map (fun q => (q.1, ryM q.2 R)) (g_X0_add n tb s v0 v1 v3 v4) := by
  have z0v0 := hO_0_v0
  obtain ⟨q0v0_0, q0v0_1, q0v0_2, q0v0_3, q0v0_4, q0v0_5, q0v0_6, q0v0_7, q0v0_8, q0v0_9, q0v0_10, q0v0_11, q0v0_12, q0v0_13, q0v0_14, q0v0_15⟩ := z0v0
  intros
  simp only [f_X0_add, g_X0_add, rhck, ryM_1, ryM_2, ryM_3, ry_si, ry_sl, if_true, ry_ck, Option.map_some, Option.map_none, ry_ite, ry_bm, ry_mb, Nat.add_assoc, Nat.reduceAdd, Option.some_bind, Option.bind_some, q0v0_0, q0v0_1, q0v0_2, q0v0_3, q0v0_4, q0v0_5, q0v0_6, q0v0_7, q0v0_8, q0v0_9, q0v0_10, q0v0_11, q0v0_12, q0v0_13, q0v0_14, q0v0_15, e_X0_lead hO_0_v0]
def g_X0_bitsFor_2 (s : ryS) : Nat → Int32 → Int32 → Option (Int32)
  | 0, _, _ => none
  | n + 1, v0, v1 =>
    if v1 < 20 then
      (if (1 <<< (v1 &&& 31)) < (2 * v0) then
        (let x1 : Int32 := v1 + 1
        g_X0_bitsFor_2 s n v0 x1)
      else
        some v1)
    else
      some v1
def g_X0_bitsFor (s : ryS) (v0 : Int32) : Option (Int32) :=
    g_X0_bitsFor_2 s rhFU v0 1
set_option maxHeartbeats 400000 in
set_option maxRecDepth 100000 in
theorem e_X0_bitsFor_2 {Γ : rhG} {R : Nat → Nat → Nat} {s : ryS} : ∀ (n : Nat) (v0 : Int32) (v1 : Int32), f_X0_bitsFor_2 Γ (ryM s R) n v0 v1 = g_X0_bitsFor_2 s n v0 v1 := by
  intro n
  induction n with
  | zero => intros; simp only [f_X0_bitsFor_2, g_X0_bitsFor_2, Option.map_none]
  | succ n ih =>
    intros
    simp only [f_X0_bitsFor_2, g_X0_bitsFor_2, rhck, ryM_1, ryM_2, ryM_3, ry_si, ry_sl, if_true, ry_ck, Option.map_some, Option.map_none, ry_ite, ry_bm, ry_mb, Nat.add_assoc, Nat.reduceAdd, Option.some_bind, Option.bind_some, ih]
set_option maxHeartbeats 400000 in
set_option maxRecDepth 100000 in
theorem e_X0_bitsFor {Γ : rhG} {R : Nat → Nat → Nat} {s : ryS} : ∀ (v0 : Int32), f_X0_bitsFor Γ (ryM s R) v0 = g_X0_bitsFor s v0 := by
  intros
  simp only [f_X0_bitsFor, g_X0_bitsFor, rhck, ryM_1, ryM_2, ryM_3, ry_si, ry_sl, if_true, ry_ck, Option.map_some, Option.map_none, ry_ite, ry_bm, ry_mb, Nat.add_assoc, Nat.reduceAdd, Option.some_bind, Option.bind_some, e_X0_bitsFor_2]
def g_X0_begin (n : Nat) (tb : Nat) (s : ryS) (v0 : Nat) (v1 : Int32) : Option (ryS) :=
    let s1 := rysi s v0 0 0
    let x2 : Int32 := if (Int32.ofNat n) < v1 then Int32.ofNat n else v1
    (g_X0_bitsFor s1 x2).bind fun r3 =>
    let s4 := rysi s1 v0 6 r3
    let x5 : Int32 := if (Int32.ofNat tb) < (1 <<< ((s4.1 v0 6) &&& 31)) then Int32.ofNat tb else 1 <<< ((s4.1 v0 6) &&& 31)
    (g_J7_fill_fda19 tb s4 ((v0 + 5)) (0 : Int32) x5 (0 : Int32)).bind fun r6 =>
    some r6
set_option maxHeartbeats 400000 in
set_option maxRecDepth 100000 in
theorem e_X0_begin {Γ : rhG} {R : Nat → Nat → Nat} {n : Nat} {tb : Nat} {v0 : Nat} (hO_0_v0 : Sh0 Γ R v0 n tb) : ∀ (s : ryS) (v1 : Int32), f_X0_begin Γ (ryM s R) v0 v1 = Option.map (fun s => ryM s R) (g_X0_begin n tb s v0 v1) := by
  have z0v0 := hO_0_v0
  obtain ⟨q0v0_0, q0v0_1, q0v0_2, q0v0_3, q0v0_4, q0v0_5, q0v0_6, q0v0_7, q0v0_8, q0v0_9, q0v0_10, q0v0_11, q0v0_12, q0v0_13, q0v0_14, q0v0_15⟩ := z0v0
  intros
  simp only [f_X0_begin, g_X0_begin, rhck, ryM_1, ryM_2, ryM_3, ry_si, ry_sl, if_true, ry_ck, Option.map_some, Option.map_none, ry_ite, ry_bm, ry_mb, Nat.add_assoc, Nat.reduceAdd, Option.some_bind, Option.bind_some, q0v0_0, q0v0_1, q0v0_2, q0v0_3, q0v0_4, q0v0_5, q0v0_6, q0v0_7, q0v0_8, q0v0_9, q0v0_10, q0v0_11, q0v0_12, q0v0_13, q0v0_14, q0v0_15, e_X0_bitsFor, e_J7_fill_fda19 ⟨by assumption, by assumption⟩]
def g_X3_clear (s : ryS) (v0 : Nat) : Option (ryS) :=
    let s1 := rysi s v0 1 0
    let s2 := rysi s1 v0 2 0
    some s2
set_option maxHeartbeats 400000 in
set_option maxRecDepth 100000 in
theorem e_X3_clear {Γ : rhG} {R : Nat → Nat → Nat} {v0 : Nat} (hO_3_v0 : Sh3 Γ R v0 c cl) : ∀ (s : ryS), f_X3_clear Γ (ryM s R) v0 = Option.map (fun s => ryM s R) (g_X3_clear s v0) := by
  have z3v0 := hO_3_v0
  obtain ⟨q3v0_0, q3v0_1, q3v0_2, q3v0_3⟩ := z3v0
  intros
  simp only [f_X3_clear, g_X3_clear, rhck, ryM_1, ryM_2, ryM_3, ry_si, ry_sl, if_true, ry_ck, Option.map_some, Option.map_none, ry_ite, ry_bm, ry_mb, Nat.add_assoc, Nat.reduceAdd, Option.some_bind, Option.bind_some, q3v0_0, q3v0_1, q3v0_2, q3v0_3]
def g_X0_isAhead_56 (n : Nat) (k10 : Nat → Int32 → Int32 → Int32 → Int32 → Option (Int32)) (s : ryS) (v0 : Nat) (v1 : Int32) (v2 : Int32) (v3 : Int32) (v4 : Int32) : Option (Int32) :=
    rhck (0 ≤ (v1).toInt ∧ (v1).toInt < n) <|
    let x2 := s.1 ((v0 + 2)) v1.toNatClampNeg
    rhck (0 ≤ (v2).toInt ∧ (v2).toInt < n) <|
    let x3 := s.1 ((v0 + 2)) v2.toNatClampNeg
    let x4 : Int32 := v4 + (-1)
    k10 v0 x2 x3 v3 x4
def g_X0_isAhead_55 (n : Nat) (k56 : Nat → Int32 → Int32 → Int32 → Int32 → Option (Int32)) (s : ryS) (v0 : Nat) (v1 : Int32) (v2 : Int32) (v4 : Int32) (w0 : Int32) : Option (Int32) :=
    k56 v0 v1 v2 w0 v4
def g_X0_isAhead_10 (n : Nat) (s : ryS) : Nat → Nat → Int32 → Int32 → Int32 → Int32 → Option (Int32)
  | 0, _, _, _, _, _ => none
  | n + 1, v0, v1, v2, v3, v4 =>
    if 0 < v4 then
      (if v1 = v2 then
        (rhck (v3 = 0 ∨ v3 = 1) <|
        some v3)
      else
        rhck (0 ≤ (v1).toInt ∧ (v1).toInt < n) <|
        rhck (0 ≤ (v2).toInt ∧ (v2).toInt < n) <|
        if (s.1 ((v0 + 3)) v1.toNatClampNeg) = (s.1 ((v0 + 3)) v2.toNatClampNeg) then
          (g_X0_isAhead_56 n (g_X0_isAhead_10 n s n) s v0 v1 v2 v3 v4)
        else
          if (s.1 ((v0 + 3)) v1.toNatClampNeg) < (s.1 ((v0 + 3)) v2.toNatClampNeg) then
            (g_X0_isAhead_55 n (g_X0_isAhead_56 n (g_X0_isAhead_10 n s n) s) s v0 v1 v2 v4 1)
          else
            g_X0_isAhead_55 n (g_X0_isAhead_56 n (g_X0_isAhead_10 n s n) s) s v0 v1 v2 v4 0)
    else
      rhck (v3 = 0 ∨ v3 = 1) <|
      some v3
def g_X0_isAhead (n : Nat) (s : ryS) (v0 : Nat) (v1 : Int32) (v2 : Int32) : Option (Int32) :=
    rhck (0 ≤ (v1).toInt ∧ (v1).toInt < n) <|
    let x1 := s.1 ((v0 + 4)) v1.toNatClampNeg
    g_X0_isAhead_10 n s rhFU v0 v1 v2 0 x1
set_option maxHeartbeats 400000 in
set_option maxRecDepth 100000 in
theorem e_X0_isAhead_56 {Γ : rhG} {R : Nat → Nat → Nat} {n : Nat} {v0 : Nat} (hO_0_v0 : Sh0 Γ R v0 n tb) {f10 : Nat → Int32 → Int32 → Int32 → Int32 → Option (Int32)} {k10 : Nat → Int32 → Int32 → Int32 → Int32 → Option (Int32)} (hk10 : ∀ (v0 : Nat) (v1 : Int32) (v2 : Int32) (v3 : Int32) (v4 : Int32), f10 v0 v1 v2 v3 v4 = k10 v0 v1 v2 v3 v4) {s : ryS} : ∀ (v1 : Int32) (v2 : Int32) (v3 : Int32) (v4 : Int32), f_X0_isAhead_56 f10 Γ (ryM s R) v0 v1 v2 v3 v4 = g_X0_isAhead_56 n k10 s v0 v1 v2 v3 v4 := by
  have z0v0 := hO_0_v0
  obtain ⟨q0v0_0, q0v0_1, q0v0_2, q0v0_3, q0v0_4, q0v0_5, q0v0_6, q0v0_7, q0v0_8, q0v0_9, q0v0_10, q0v0_11, q0v0_12, q0v0_13, q0v0_14, q0v0_15⟩ := z0v0
  intros
  simp only [f_X0_isAhead_56, g_X0_isAhead_56, rhck, ryM_1, ryM_2, ryM_3, ry_si, ry_sl, if_true, ry_ck, Option.map_some, Option.map_none, ry_ite, ry_bm, ry_mb, Nat.add_assoc, Nat.reduceAdd, Option.some_bind, Option.bind_some, q0v0_0, q0v0_1, q0v0_2, q0v0_3, q0v0_4, q0v0_5, q0v0_6, q0v0_7, q0v0_8, q0v0_9, q0v0_10, q0v0_11, q0v0_12, q0v0_13, q0v0_14, q0v0_15, hk10]
set_option maxHeartbeats 400000 in
set_option maxRecDepth 100000 in
theorem e_X0_isAhead_55 {Γ : rhG} {R : Nat → Nat → Nat} {n : Nat} {v0 : Nat} (hO_0_v0 : Sh0 Γ R v0 n tb) {f56 : Nat → Int32 → Int32 → Int32 → Int32 → Option (Int32)} {k56 : Nat → Int32 → Int32 → Int32 → Int32 → Option (Int32)} (hk56 : ∀ (v0 : Nat) (v1 : Int32) (v2 : Int32) (v3 : Int32) (v4 : Int32), f56 v0 v1 v2 v3 v4 = k56 v0 v1 v2 v3 v4) {s : ryS} : ∀ (v1 : Int32) (v2 : Int32) (v4 : Int32) (w0 : Int32), f_X0_isAhead_55 f56 Γ (ryM s R) v0 v1 v2 v4 w0 = g_X0_isAhead_55 n k56 s v0 v1 v2 v4 w0 := by
  have z0v0 := hO_0_v0
  obtain ⟨q0v0_0, q0v0_1, q0v0_2, q0v0_3, q0v0_4, q0v0_5, q0v0_6, q0v0_7, q0v0_8, q0v0_9, q0v0_10, q0v0_11, q0v0_12, q0v0_13, q0v0_14, q0v0_15⟩ := z0v0
  intros
  simp only [f_X0_isAhead_55, g_X0_isAhead_55, rhck, ryM_1, ryM_2, ryM_3, ry_si, ry_sl, if_true, ry_ck, Option.map_some, Option.map_none, ry_ite, ry_bm, ry_mb, Nat.add_assoc, Nat.reduceAdd, Option.some_bind, Option.bind_some, q0v0_0, q0v0_1, q0v0_2, q0v0_3, q0v0_4, q0v0_5, q0v0_6, q0v0_7, q0v0_8, q0v0_9, q0v0_10, q0v0_11, q0v0_12, q0v0_13, q0v0_14, q0v0_15, hk56]
set_option maxHeartbeats 400000 in
set_option maxRecDepth 100000 in
theorem e_X0_isAhead_10 {Γ : rhG} {R : Nat → Nat → Nat} {n : Nat} {v0 : Nat} (hO_0_v0 : Sh0 Γ R v0 n tb) {s : ryS} : ∀ (n : Nat) (v1 : Int32) (v2 : Int32) (v3 : Int32) (v4 : Int32), f_X0_isAhead_10 Γ (ryM s R) n v0 v1 v2 v3 v4 = g_X0_isAhead_10 n s n v0 v1 v2 v3 v4 := by
  have z0v0 := hO_0_v0
  obtain ⟨q0v0_0, q0v0_1, q0v0_2, q0v0_3, q0v0_4, q0v0_5, q0v0_6, q0v0_7, q0v0_8, q0v0_9, q0v0_10, q0v0_11, q0v0_12, q0v0_13, q0v0_14, q0v0_15⟩ := z0v0
  intro n
  induction n with
  | zero => intros; simp only [f_X0_isAhead_10, g_X0_isAhead_10, Option.map_none]
  | succ n ih =>
    intros
    simp only [f_X0_isAhead_10, g_X0_isAhead_10, rhck, ryM_1, ryM_2, ryM_3, ry_si, ry_sl, if_true, ry_ck, Option.map_some, Option.map_none, ry_ite, ry_bm, ry_mb, Nat.add_assoc, Nat.reduceAdd, Option.some_bind, Option.bind_some, q0v0_0, q0v0_1, q0v0_2, q0v0_3, q0v0_4, q0v0_5, q0v0_6, q0v0_7, q0v0_8, q0v0_9, q0v0_10, q0v0_11, q0v0_12, q0v0_13, q0v0_14, q0v0_15, e_X0_isAhead_56 hO_0_v0 ih, e_X0_isAhead_55 hO_0_v0 (e_X0_isAhead_56 hO_0_v0 ih), ih]
set_option maxHeartbeats 400000 in
set_option maxRecDepth 100000 in
theorem e_X0_isAhead {Γ : rhG} {R : Nat → Nat → Nat} {n : Nat} {v0 : Nat} (hO_0_v0 : Sh0 Γ R v0 n tb) {s : ryS} : ∀ (v1 : Int32) (v2 : Int32), f_X0_isAhead Γ (ryM s R) v0 v1 v2 = g_X0_isAhead n s v0 v1 v2 := by
  have z0v0 := hO_0_v0
  obtain ⟨q0v0_0, q0v0_1, q0v0_2, q0v0_3, q0v0_4, q0v0_5, q0v0_6, q0v0_7, q0v0_8, q0v0_9, q0v0_10, q0v0_11, q0v0_12, q0v0_13, q0v0_14, q0v0_15⟩ := z0v0
  intros
  simp only [f_X0_isAhead, g_X0_isAhead, rhck, ryM_1, ryM_2, ryM_3, ry_si, ry_sl, if_true, ry_ck, Option.map_some, Option.map_none, ry_ite, ry_bm, ry_mb, Nat.add_assoc, Nat.reduceAdd, Option.some_bind, Option.bind_some, q0v0_0, q0v0_1, q0v0_2, q0v0_3, q0v0_4, q0v0_5, q0v0_6, q0v0_7, q0v0_8, q0v0_9, q0v0_10, q0v0_11, q0v0_12, q0v0_13, q0v0_14, q0v0_15, e_X0_isAhead_10 hO_0_v0]
def g_X0_numberOf_30 (n : Nat) (tb : Nat) (k89 : ryS → Nat → Option (Int32 × ryS)) : Nat → ryS → Nat → Int64 → Int32 → Int32 → Option (Int32 × ryS)
  | 0, _, _, _, _, _ => none
  | n + 1, s, v0, v1, v3, v4 =>
    if v3 < v4 then
      (k89 s v0)
    else
      rhck (0 ≤ (s.1 v0 7).toInt ∧ (s.1 v0 7).toInt < tb) <|
      let x3 := (s.1 ((v0 + 5)) (s.1 v0 7).toNatClampNeg) - 1
      if x3 < 0 then
        (some (((-1), s)))
      else
        rhck (0 ≤ (x3).toInt ∧ (x3).toInt < n) <|
        if (s.2 ((v0 + 1)) x3.toNatClampNeg) = v1 then
          (some ((x3, s)))
        else
          let s4 := rysi s v0 7 (((s.1 v0 7) + 1) &&& v3)
          let x5 : Int32 := v4 + 1
          g_X0_numberOf_30 n tb k89 n s4 v0 v1 v3 x5
def g_X0_numberOf_89 (n : Nat) (tb : Nat) (s : ryS) (v0 : Nat) : Option (Int32 × ryS) :=
    let s6 := rysi s v0 7 ((-1))
    some (((-1), s6))
def g_X0_numberOf (n : Nat) (tb : Nat) (s : ryS) (v0 : Nat) (v1 : Int64) : Option (Int32 × ryS) :=
    let x1 := (1 <<< ((s.1 v0 6) &&& 31)) - 1
    let s2 := rysi s v0 7 (Int64.toInt32 (rhul (v1 * ((-7046029254386353131 : Int64))) (64 - (s.1 v0 6))))
    g_X0_numberOf_30 n tb (g_X0_numberOf_89 n tb) rhFU s2 v0 v1 x1 0
set_option maxHeartbeats 400000 in
set_option maxRecDepth 100000 in
theorem e_X0_numberOf_30 {Γ : rhG} {R : Nat → Nat → Nat} {n : Nat} {tb : Nat} {v0 : Nat} (hO_0_v0 : Sh0 Γ R v0 n tb) {f89 : rhM → Nat → Option (Int32 × rhM)} {k89 : ryS → Nat → Option (Int32 × ryS)} (hk89 : ∀ (s : ryS) (v0 : Nat), f89 (ryM s R) v0 = Option.map (fun q => (q.1, ryM q.2 R)) (k89 s v0)) : ∀ (n : Nat) (s : ryS) (v1 : Int64) (v3 : Int32) (v4 : Int32), f_X0_numberOf_30 f89 Γ n (ryM s R) v0 v1 v3 v4 = Option.map (fun q => (q.1, ryM q.2 R)) (g_X0_numberOf_30 n tb k89 n s v0 v1 v3 v4) := by
  have z0v0 := hO_0_v0
  obtain ⟨q0v0_0, q0v0_1, q0v0_2, q0v0_3, q0v0_4, q0v0_5, q0v0_6, q0v0_7, q0v0_8, q0v0_9, q0v0_10, q0v0_11, q0v0_12, q0v0_13, q0v0_14, q0v0_15⟩ := z0v0
  intro n
  induction n with
  | zero => intros; simp only [f_X0_numberOf_30, g_X0_numberOf_30, Option.map_none]
  | succ n ih =>
    intros
    simp only [f_X0_numberOf_30, g_X0_numberOf_30, rhck, ryM_1, ryM_2, ryM_3, ry_si, ry_sl, if_true, ry_ck, Option.map_some, Option.map_none, ry_ite, ry_bm, ry_mb, Nat.add_assoc, Nat.reduceAdd, Option.some_bind, Option.bind_some, q0v0_0, q0v0_1, q0v0_2, q0v0_3, q0v0_4, q0v0_5, q0v0_6, q0v0_7, q0v0_8, q0v0_9, q0v0_10, q0v0_11, q0v0_12, q0v0_13, q0v0_14, q0v0_15, hk89, ih]
set_option maxHeartbeats 400000 in
set_option maxRecDepth 100000 in
theorem e_X0_numberOf_89 {Γ : rhG} {R : Nat → Nat → Nat} {n : Nat} {tb : Nat} {v0 : Nat} (hO_0_v0 : Sh0 Γ R v0 n tb) : ∀ (s : ryS), f_X0_numberOf_89 Γ (ryM s R) v0 = Option.map (fun q => (q.1, ryM q.2 R)) (g_X0_numberOf_89 n tb s v0) := by
  have z0v0 := hO_0_v0
  obtain ⟨q0v0_0, q0v0_1, q0v0_2, q0v0_3, q0v0_4, q0v0_5, q0v0_6, q0v0_7, q0v0_8, q0v0_9, q0v0_10, q0v0_11, q0v0_12, q0v0_13, q0v0_14, q0v0_15⟩ := z0v0
  intros
  simp only [f_X0_numberOf_89, g_X0_numberOf_89, rhck, ryM_1, ryM_2, ryM_3, ry_si, ry_sl, if_true, ry_ck, Option.map_some, Option.map_none, ry_ite, ry_bm, ry_mb, Nat.add_assoc, Nat.reduceAdd, Option.some_bind, Option.bind_some, q0v0_0, q0v0_1, q0v0_2, q0v0_3, q0v0_4, q0v0_5, q0v0_6, q0v0_7, q0v0_8, q0v0_9, q0v0_10, q0v0_11, q0v0_12, q0v0_13, q0v0_14, q0v0_15]
set_option maxHeartbeats 400000 in
set_option maxRecDepth 100000 in
theorem e_X0_numberOf {Γ : rhG} {R : Nat → Nat → Nat} {n : Nat} {tb : Nat} {v0 : Nat} (hO_0_v0 : Sh0 Γ R v0 n tb) : ∀ (s : ryS) (v1 : Int64), f_X0_numberOf Γ (ryM s R) v0 v1 = Option.map (fun q => (q.1, ryM q.2 R)) (g_X0_numberOf n tb s v0 v1) := by
  have z0v0 := hO_0_v0
  obtain ⟨q0v0_0, q0v0_1, q0v0_2, q0v0_3, q0v0_4, q0v0_5, q0v0_6, q0v0_7, q0v0_8, q0v0_9, q0v0_10, q0v0_11, q0v0_12, q0v0_13, q0v0_14, q0v0_15⟩ := z0v0
  intros
  simp only [f_X0_numberOf, g_X0_numberOf, rhck, ryM_1, ryM_2, ryM_3, ry_si, ry_sl, if_true, ry_ck, Option.map_some, Option.map_none, ry_ite, ry_bm, ry_mb, Nat.add_assoc, Nat.reduceAdd, Option.some_bind, Option.bind_some, q0v0_0, q0v0_1, q0v0_2, q0v0_3, q0v0_4, q0v0_5, q0v0_6, q0v0_7, q0v0_8, q0v0_9, q0v0_10, q0v0_11, q0v0_12, q0v0_13, q0v0_14, q0v0_15, e_X0_numberOf_30 hO_0_v0 (e_X0_numberOf_89 hO_0_v0), e_X0_numberOf_89 hO_0_v0]
def g_X1_addStep (s : ryS) (v0 : Nat) (v1 : Int32) (v2 : Int32) : Option (ryS) :=
    if (s.1 v0 1) < 512 then
      (rhck (0 ≤ (s.1 v0 1).toInt ∧ (s.1 v0 1).toInt < (512 : Nat)) <|
      let s1 := rysi s ((v0 + 1)) (s.1 v0 1 : Int32).toNatClampNeg v1
      rhck (0 ≤ (s1.1 v0 1).toInt ∧ (s1.1 v0 1).toInt < (512 : Nat)) <|
      let s2 := rysi s1 ((v0 + 2)) (s1.1 v0 1 : Int32).toNatClampNeg v2
      let s3 := rysi s2 v0 1 ((s2.1 v0 1) + 1)
      some s3)
    else
      some s
set_option maxHeartbeats 400000 in
set_option maxRecDepth 100000 in
theorem e_X1_addStep {Γ : rhG} {R : Nat → Nat → Nat} {v0 : Nat} (hO_1_v0 : Sh1 Γ R v0) : ∀ (s : ryS) (v1 : Int32) (v2 : Int32), f_X1_addStep Γ (ryM s R) v0 v1 v2 = Option.map (fun s => ryM s R) (g_X1_addStep s v0 v1 v2) := by
  have z1v0 := hO_1_v0
  obtain ⟨q1v0_0, q1v0_1, q1v0_2, q1v0_3, q1v0_4, q1v0_5, q1v0_6, q1v0_7, q1v0_8, q1v0_9, q1v0_10, q1v0_11, q1v0_12⟩ := z1v0
  intros
  simp only [f_X1_addStep, g_X1_addStep, rhck, ryM_1, ryM_2, ryM_3, ry_si, ry_sl, if_true, ry_ck, Option.map_some, Option.map_none, ry_ite, ry_bm, ry_mb, Nat.add_assoc, Nat.reduceAdd, Option.some_bind, Option.bind_some, q1v0_0, q1v0_1, q1v0_2, q1v0_3, q1v0_4, q1v0_5, q1v0_6, q1v0_7, q1v0_8, q1v0_9, q1v0_10, q1v0_11, q1v0_12]
def g_X1_addUnit (s : ryS) (v0 : Nat) (v1 : Int32) (v2 : Int32) : Option (ryS) :=
    let s1 := rysi s v0 0 ((s.1 v0 0) + 1)
    (g_X1_addStep s1 v0 v1 v2).bind fun r2 =>
    some r2
set_option maxHeartbeats 400000 in
set_option maxRecDepth 100000 in
theorem e_X1_addUnit {Γ : rhG} {R : Nat → Nat → Nat} {v0 : Nat} (hO_1_v0 : Sh1 Γ R v0) : ∀ (s : ryS) (v1 : Int32) (v2 : Int32), f_X1_addUnit Γ (ryM s R) v0 v1 v2 = Option.map (fun s => ryM s R) (g_X1_addUnit s v0 v1 v2) := by
  have z1v0 := hO_1_v0
  obtain ⟨q1v0_0, q1v0_1, q1v0_2, q1v0_3, q1v0_4, q1v0_5, q1v0_6, q1v0_7, q1v0_8, q1v0_9, q1v0_10, q1v0_11, q1v0_12⟩ := z1v0
  intros
  simp only [f_X1_addUnit, g_X1_addUnit, rhck, ryM_1, ryM_2, ryM_3, ry_si, ry_sl, if_true, ry_ck, Option.map_some, Option.map_none, ry_ite, ry_bm, ry_mb, Nat.add_assoc, Nat.reduceAdd, Option.some_bind, Option.bind_some, q1v0_0, q1v0_1, q1v0_2, q1v0_3, q1v0_4, q1v0_5, q1v0_6, q1v0_7, q1v0_8, q1v0_9, q1v0_10, q1v0_11, q1v0_12, e_X1_addStep hO_1_v0]
def g_X1_clear (s : ryS) (v0 : Nat) : Option (ryS) :=
    let s1 := rysi s v0 0 0
    let s2 := rysi s1 v0 1 0
    some s2
set_option maxHeartbeats 400000 in
set_option maxRecDepth 100000 in
theorem e_X1_clear {Γ : rhG} {R : Nat → Nat → Nat} {v0 : Nat} (hO_1_v0 : Sh1 Γ R v0) : ∀ (s : ryS), f_X1_clear Γ (ryM s R) v0 = Option.map (fun s => ryM s R) (g_X1_clear s v0) := by
  have z1v0 := hO_1_v0
  obtain ⟨q1v0_0, q1v0_1, q1v0_2, q1v0_3, q1v0_4, q1v0_5, q1v0_6, q1v0_7, q1v0_8, q1v0_9, q1v0_10, q1v0_11, q1v0_12⟩ := z1v0
  intros
  simp only [f_X1_clear, g_X1_clear, rhck, ryM_1, ryM_2, ryM_3, ry_si, ry_sl, if_true, ry_ck, Option.map_some, Option.map_none, ry_ite, ry_bm, ry_mb, Nat.add_assoc, Nat.reduceAdd, Option.some_bind, Option.bind_some, q1v0_0, q1v0_1, q1v0_2, q1v0_3, q1v0_4, q1v0_5, q1v0_6, q1v0_7, q1v0_8, q1v0_9, q1v0_10, q1v0_11, q1v0_12]
def g_X1_isGiven (s : ryS) (v0 : Int32) : Option (Int32) :=
    if v0 = 6 then
      (some 1)
    else
      if v0 = 7 then
        (some 1)
      else
        if v0 < 13 then
          (some 0)
        else
          if 16 < v0 then
            (some 0)
          else
            some 1
set_option maxHeartbeats 400000 in
set_option maxRecDepth 100000 in
theorem e_X1_isGiven {Γ : rhG} {R : Nat → Nat → Nat} {s : ryS} : ∀ (v0 : Int32), f_X1_isGiven Γ (ryM s R) v0 = g_X1_isGiven s v0 := by
  intros
  simp only [f_X1_isGiven, g_X1_isGiven, rhck, ryM_1, ryM_2, ryM_3, ry_si, ry_sl, if_true, ry_ck, Option.map_some, Option.map_none, ry_ite, ry_bm, ry_mb, Nat.add_assoc, Nat.reduceAdd, Option.some_bind, Option.bind_some]
def g_X1_joined (s : ryS) (v0 : Int32) (v1 : Int32) (v2 : Int32) : Option (Int32) :=
    if v0 = 11 then
      (if v1 = 0 then
        (some 0)
      else
        if v2 = 0 then
          (some 0)
        else
          some 1)
    else
    if v0 = 42 then
      (some (v1 * v2))
    else
    if v0 = 43 then
      (some (v1 + v2))
    else
    if v0 = 45 then
      (some (v1 - v2))
    else
    if v0 = 47 then
      (if v2 = 0 then
        (some 0)
      else
        rhck (¬ v2 = 0) <|
        some (v1 / v2))
    else
    if v0 = 60 then
      (if v1 < v2 then
        (some 1)
      else
        some 0)
    else
    if v0 = 61 then
      (if v1 = v2 then
        (some 1)
      else
        some 0)
    else
    if v0 = 62 then
      (if v2 < v1 then
        (some 1)
      else
        some 0)
    else
    if v1 = 0 then
      (if v2 = 0 then
        (some 0)
      else
        some 1)
    else
      some 1
set_option maxHeartbeats 400000 in
set_option maxRecDepth 100000 in
theorem e_X1_joined {Γ : rhG} {R : Nat → Nat → Nat} {s : ryS} : ∀ (v0 : Int32) (v1 : Int32) (v2 : Int32), f_X1_joined Γ (ryM s R) v0 v1 v2 = g_X1_joined s v0 v1 v2 := by
  intros
  simp only [f_X1_joined, g_X1_joined, rhck, ryM_1, ryM_2, ryM_3, ry_si, ry_sl, if_true, ry_ck, Option.map_some, Option.map_none, ry_ite, ry_bm, ry_mb, Nat.add_assoc, Nat.reduceAdd, Option.some_bind, Option.bind_some]
def g_X1_comesTo_261 (k69 : ryS → Nat → Int32 → Int32 → Int32 → Option (Int32 × ryS)) (s : ryS) (v0 : Nat) (v2 : Int32) (v7 : Int32) (v8 : Int32) : Option (Int32 × ryS) :=
    let x11 : Int32 := v8 + 1
    k69 s v0 v2 v7 x11
def g_X1_comesTo_218 (k261 : ryS → Nat → Int32 → Int32 → Int32 → Option (Int32 × ryS)) (s : ryS) (v0 : Nat) (v2 : Int32) (v7 : Int32) (v8 : Int32) (w1 : Int32) (w2 : Int32) : Option (Int32 × ryS) :=
    rhck (0 ≤ (w1).toInt ∧ (w1).toInt < (512 : Nat)) <|
    let s15 := rysi s ((v0 + 3)) (w1 : Int32).toNatClampNeg w2
    k261 s15 v0 v2 v7 v8
def g_X1_comesTo_222 (k261 : ryS → Nat → Int32 → Int32 → Int32 → Option (Int32 × ryS)) (s : ryS) (v0 : Nat) (v2 : Int32) (v7 : Int32) (v8 : Int32) (v9 : Int32) : Option (Int32 × ryS) :=
    if 1 < v7 then
      (let x16 : Int32 := v7 + (-1)
      rhck (0 ≤ (x16 - 1).toInt ∧ (x16 - 1).toInt < (512 : Nat)) <|
      rhck (0 ≤ (x16).toInt ∧ (x16).toInt < (512 : Nat)) <|
      (g_X1_joined s v9 (s.1 ((v0 + 3)) (x16 - 1).toNatClampNeg) (s.1 ((v0 + 3)) x16.toNatClampNeg)).bind fun r17 =>
      let s18 := rysi s ((v0 + 3)) (x16 - 1 : Int32).toNatClampNeg r17
      k261 s18 v0 v2 x16 v8)
    else
      k261 s v0 v2 v7 v8
def g_X1_comesTo_69 : Nat → ryS → Nat → Int32 → Int32 → Int32 → Option (Int32 × ryS)
  | 0, _, _, _, _, _ => none
  | n + 1, s, v0, v2, v7, v8 =>
    if v8 < (s.1 v0 1) then
      (if v7 < 512 then
        (rhck (0 ≤ (v8).toInt ∧ (v8).toInt < (512 : Nat)) <|
        let x8 := s.1 ((v0 + 1)) v8.toNatClampNeg
        if x8 = 48 then
          (rhck (0 ≤ (v8).toInt ∧ (v8).toInt < (512 : Nat)) <|
          rhck (0 ≤ (v7).toInt ∧ (v7).toInt < (512 : Nat)) <|
          let s9 := rysi s ((v0 + 3)) (v7 : Int32).toNatClampNeg ((s.1 ((v0 + 2)) v8.toNatClampNeg))
          let x10 : Int32 := v7 + 1
          g_X1_comesTo_261 (g_X1_comesTo_69 n) s9 v0 v2 x10 v8)
        else
          if x8 = 17 then
            (rhck (0 ≤ (v8).toInt ∧ (v8).toInt < (512 : Nat)) <|
            rhck (0 ≤ (v7).toInt ∧ (v7).toInt < (512 : Nat)) <|
            let s12 := rysi s ((v0 + 3)) (v7 : Int32).toNatClampNeg (((rhus v2 (s.1 ((v0 + 2)) v8.toNatClampNeg)) &&& 1))
            let x13 : Int32 := v7 + 1
            g_X1_comesTo_261 (g_X1_comesTo_69 n) s12 v0 v2 x13 v8)
          else
            (g_X1_isGiven s x8).bind fun r14 =>
            if r14 = 0 then
              (if x8 = 12 then
                (if 0 < v7 then
                  (rhck (0 ≤ (v7 - 1).toInt ∧ (v7 - 1).toInt < (512 : Nat)) <|
                  if (s.1 ((v0 + 3)) (v7 - 1).toNatClampNeg) = 0 then
                    (g_X1_comesTo_218 (g_X1_comesTo_261 (g_X1_comesTo_69 n)) s v0 v2 v7 v8 (v7 - 1) 1)
                  else
                    g_X1_comesTo_218 (g_X1_comesTo_261 (g_X1_comesTo_69 n)) s v0 v2 v7 v8 (v7 - 1) 0)
                else
                  g_X1_comesTo_222 (g_X1_comesTo_261 (g_X1_comesTo_69 n)) s v0 v2 v7 v8 x8)
              else
                g_X1_comesTo_222 (g_X1_comesTo_261 (g_X1_comesTo_69 n)) s v0 v2 v7 v8 x8)
            else
              rhck (0 ≤ (x8).toInt ∧ (x8).toInt < (18 : Nat)) <|
              rhck (0 ≤ (v7).toInt ∧ (v7).toInt < (512 : Nat)) <|
              let s19 := rysi s ((v0 + 3)) (v7 : Int32).toNatClampNeg ((s.1 ((v0 + 4)) x8.toNatClampNeg))
              let x20 : Int32 := v7 + 1
              g_X1_comesTo_261 (g_X1_comesTo_69 n) s19 v0 v2 x20 v8)
      else
        rhck (0 ≤ (0 : Int32).toInt ∧ (0 : Int32).toInt < (512 : Nat)) <|
        some ((s.1 ((v0 + 3)) (0 : Int32).toNatClampNeg, s)))
    else
      rhck (0 ≤ (0 : Int32).toInt ∧ (0 : Int32).toInt < (512 : Nat)) <|
      some ((s.1 ((v0 + 3)) (0 : Int32).toNatClampNeg, s))
def g_X1_comesTo (s : ryS) (v0 : Nat) (v1 : Int32) (v2 : Int32) (v3 : Int32) (v4 : Int32) (v5 : Int32) (v6 : Int32) : Option (Int32 × ryS) :=
    if (s.1 v0 1) = 0 then
      (some ((1, s)))
    else
      rhck (0 ≤ (14 : Int32).toInt ∧ (14 : Int32).toInt < (18 : Nat)) <|
      let s1 := rysi s ((v0 + 4)) (14 : Int32).toNatClampNeg v1
      rhck (0 ≤ (15 : Int32).toInt ∧ (15 : Int32).toInt < (18 : Nat)) <|
      let s2 := rysi s1 ((v0 + 4)) (15 : Int32).toNatClampNeg v3
      rhck (0 ≤ (16 : Int32).toInt ∧ (16 : Int32).toInt < (18 : Nat)) <|
      let s3 := rysi s2 ((v0 + 4)) (16 : Int32).toNatClampNeg v4
      (g_J6_bitCount_0f7a4 s3 v2).bind fun r4 =>
      rhck (0 ≤ (13 : Int32).toInt ∧ (13 : Int32).toInt < (18 : Nat)) <|
      let s5 := rysi s3 ((v0 + 4)) (13 : Int32).toNatClampNeg r4
      rhck (0 ≤ (7 : Int32).toInt ∧ (7 : Int32).toInt < (18 : Nat)) <|
      let s6 := rysi s5 ((v0 + 4)) (7 : Int32).toNatClampNeg v5
      rhck (0 ≤ (6 : Int32).toInt ∧ (6 : Int32).toInt < (18 : Nat)) <|
      let s7 := rysi s6 ((v0 + 4)) (6 : Int32).toNatClampNeg v6
      g_X1_comesTo_69 rhFU s7 v0 v2 0 0
set_option maxHeartbeats 400000 in
set_option maxRecDepth 100000 in
theorem e_X1_comesTo_261 {Γ : rhG} {R : Nat → Nat → Nat} {v0 : Nat} (hO_1_v0 : Sh1 Γ R v0) {f69 : rhM → Nat → Int32 → Int32 → Int32 → Option (Int32 × rhM)} {k69 : ryS → Nat → Int32 → Int32 → Int32 → Option (Int32 × ryS)} (hk69 : ∀ (s : ryS) (v0 : Nat) (v2 : Int32) (v7 : Int32) (v8 : Int32), f69 (ryM s R) v0 v2 v7 v8 = Option.map (fun q => (q.1, ryM q.2 R)) (k69 s v0 v2 v7 v8)) : ∀ (s : ryS) (v2 : Int32) (v7 : Int32) (v8 : Int32), f_X1_comesTo_261 f69 Γ (ryM s R) v0 v2 v7 v8 = Option.map (fun q => (q.1, ryM q.2 R)) (g_X1_comesTo_261 k69 s v0 v2 v7 v8) := by
  have z1v0 := hO_1_v0
  obtain ⟨q1v0_0, q1v0_1, q1v0_2, q1v0_3, q1v0_4, q1v0_5, q1v0_6, q1v0_7, q1v0_8, q1v0_9, q1v0_10, q1v0_11, q1v0_12⟩ := z1v0
  intros
  simp only [f_X1_comesTo_261, g_X1_comesTo_261, rhck, ryM_1, ryM_2, ryM_3, ry_si, ry_sl, if_true, ry_ck, Option.map_some, Option.map_none, ry_ite, ry_bm, ry_mb, Nat.add_assoc, Nat.reduceAdd, Option.some_bind, Option.bind_some, q1v0_0, q1v0_1, q1v0_2, q1v0_3, q1v0_4, q1v0_5, q1v0_6, q1v0_7, q1v0_8, q1v0_9, q1v0_10, q1v0_11, q1v0_12, hk69]
set_option maxHeartbeats 400000 in
set_option maxRecDepth 100000 in
theorem e_X1_comesTo_218 {Γ : rhG} {R : Nat → Nat → Nat} {v0 : Nat} (hO_1_v0 : Sh1 Γ R v0) {f261 : rhM → Nat → Int32 → Int32 → Int32 → Option (Int32 × rhM)} {k261 : ryS → Nat → Int32 → Int32 → Int32 → Option (Int32 × ryS)} (hk261 : ∀ (s : ryS) (v0 : Nat) (v2 : Int32) (v7 : Int32) (v8 : Int32), f261 (ryM s R) v0 v2 v7 v8 = Option.map (fun q => (q.1, ryM q.2 R)) (k261 s v0 v2 v7 v8)) : ∀ (s : ryS) (v2 : Int32) (v7 : Int32) (v8 : Int32) (w1 : Int32) (w2 : Int32), f_X1_comesTo_218 f261 Γ (ryM s R) v0 v2 v7 v8 ((v0 + 3)) w1 w2 = Option.map (fun q => (q.1, ryM q.2 R)) (g_X1_comesTo_218 k261 s v0 v2 v7 v8 w1 w2) := by
  have z1v0 := hO_1_v0
  obtain ⟨q1v0_0, q1v0_1, q1v0_2, q1v0_3, q1v0_4, q1v0_5, q1v0_6, q1v0_7, q1v0_8, q1v0_9, q1v0_10, q1v0_11, q1v0_12⟩ := z1v0
  intros
  simp only [f_X1_comesTo_218, g_X1_comesTo_218, rhck, ryM_1, ryM_2, ryM_3, ry_si, ry_sl, if_true, ry_ck, Option.map_some, Option.map_none, ry_ite, ry_bm, ry_mb, Nat.add_assoc, Nat.reduceAdd, Option.some_bind, Option.bind_some, q1v0_0, q1v0_1, q1v0_2, q1v0_3, q1v0_4, q1v0_5, q1v0_6, q1v0_7, q1v0_8, q1v0_9, q1v0_10, q1v0_11, q1v0_12, hk261]
set_option maxHeartbeats 400000 in
set_option maxRecDepth 100000 in
theorem e_X1_comesTo_222 {Γ : rhG} {R : Nat → Nat → Nat} {v0 : Nat} (hO_1_v0 : Sh1 Γ R v0) {f261 : rhM → Nat → Int32 → Int32 → Int32 → Option (Int32 × rhM)} {k261 : ryS → Nat → Int32 → Int32 → Int32 → Option (Int32 × ryS)} (hk261 : ∀ (s : ryS) (v0 : Nat) (v2 : Int32) (v7 : Int32) (v8 : Int32), f261 (ryM s R) v0 v2 v7 v8 = Option.map (fun q => (q.1, ryM q.2 R)) (k261 s v0 v2 v7 v8)) : ∀ (s : ryS) (v2 : Int32) (v7 : Int32) (v8 : Int32) (v9 : Int32), f_X1_comesTo_222 f261 Γ (ryM s R) v0 v2 v7 v8 v9 = Option.map (fun q => (q.1, ryM q.2 R)) (g_X1_comesTo_222 k261 s v0 v2 v7 v8 v9) := by
  have z1v0 := hO_1_v0
  obtain ⟨q1v0_0, q1v0_1, q1v0_2, q1v0_3, q1v0_4, q1v0_5, q1v0_6, q1v0_7, q1v0_8, q1v0_9, q1v0_10, q1v0_11, q1v0_12⟩ := z1v0
  intros
  simp only [f_X1_comesTo_222, g_X1_comesTo_222, rhck, ryM_1, ryM_2, ryM_3, ry_si, ry_sl, if_true, ry_ck, Option.map_some, Option.map_none, ry_ite, ry_bm, ry_mb, Nat.add_assoc, Nat.reduceAdd, Option.some_bind, Option.bind_some, q1v0_0, q1v0_1, q1v0_2, q1v0_3, q1v0_4, q1v0_5, q1v0_6, q1v0_7, q1v0_8, q1v0_9, q1v0_10, q1v0_11, q1v0_12, e_X1_joined, hk261]
set_option maxHeartbeats 400000 in
set_option maxRecDepth 100000 in
theorem e_X1_comesTo_69 {Γ : rhG} {R : Nat → Nat → Nat} {v0 : Nat} (hO_1_v0 : Sh1 Γ R v0) : ∀ (n : Nat) (s : ryS) (v2 : Int32) (v7 : Int32) (v8 : Int32), f_X1_comesTo_69 Γ n (ryM s R) v0 v2 v7 v8 = Option.map (fun q => (q.1, ryM q.2 R)) (g_X1_comesTo_69 n s v0 v2 v7 v8) := by
  have z1v0 := hO_1_v0
  obtain ⟨q1v0_0, q1v0_1, q1v0_2, q1v0_3, q1v0_4, q1v0_5, q1v0_6, q1v0_7, q1v0_8, q1v0_9, q1v0_10, q1v0_11, q1v0_12⟩ := z1v0
  intro n
  induction n with
  | zero => intros; simp only [f_X1_comesTo_69, g_X1_comesTo_69, Option.map_none]
  | succ n ih =>
    intros
    simp only [f_X1_comesTo_69, g_X1_comesTo_69, rhck, ryM_1, ryM_2, ryM_3, ry_si, ry_sl, if_true, ry_ck, Option.map_some, Option.map_none, ry_ite, ry_bm, ry_mb, Nat.add_assoc, Nat.reduceAdd, Option.some_bind, Option.bind_some, q1v0_0, q1v0_1, q1v0_2, q1v0_3, q1v0_4, q1v0_5, q1v0_6, q1v0_7, q1v0_8, q1v0_9, q1v0_10, q1v0_11, q1v0_12, e_X1_isGiven, e_X1_comesTo_261 hO_1_v0 ih, e_X1_comesTo_218 hO_1_v0 (e_X1_comesTo_261 hO_1_v0 ih), e_X1_comesTo_222 hO_1_v0 (e_X1_comesTo_261 hO_1_v0 ih), ih]
set_option maxHeartbeats 400000 in
set_option maxRecDepth 100000 in
theorem e_X1_comesTo {Γ : rhG} {R : Nat → Nat → Nat} {v0 : Nat} (hO_1_v0 : Sh1 Γ R v0) : ∀ (s : ryS) (v1 : Int32) (v2 : Int32) (v3 : Int32) (v4 : Int32) (v5 : Int32) (v6 : Int32), f_X1_comesTo Γ (ryM s R) v0 v1 v2 v3 v4 v5 v6 = Option.map (fun q => (q.1, ryM q.2 R)) (g_X1_comesTo s v0 v1 v2 v3 v4 v5 v6) := by
  have z1v0 := hO_1_v0
  obtain ⟨q1v0_0, q1v0_1, q1v0_2, q1v0_3, q1v0_4, q1v0_5, q1v0_6, q1v0_7, q1v0_8, q1v0_9, q1v0_10, q1v0_11, q1v0_12⟩ := z1v0
  intros
  simp only [f_X1_comesTo, g_X1_comesTo, rhck, ryM_1, ryM_2, ryM_3, ry_si, ry_sl, if_true, ry_ck, Option.map_some, Option.map_none, ry_ite, ry_bm, ry_mb, Nat.add_assoc, Nat.reduceAdd, Option.some_bind, Option.bind_some, q1v0_0, q1v0_1, q1v0_2, q1v0_3, q1v0_4, q1v0_5, q1v0_6, q1v0_7, q1v0_8, q1v0_9, q1v0_10, q1v0_11, q1v0_12, e_J6_bitCount_0f7a4, e_X1_comesTo_69 hO_1_v0]
def g_X9_roomBeside (s : ryS) (v0 : Nat) (v1 : Int32) (v2 : Int32) : Option (Int32) :=
    rhck (0 ≤ (v1).toInt ∧ (v1).toInt < (5 : Nat)) <|
    rhck (0 ≤ (v2).toInt ∧ (v2).toInt < (256 : Nat)) <|
    some ((s.1 ((v0 + 1)) v1.toNatClampNeg) - (s.1 ((v0 + 2)) v2.toNatClampNeg))
set_option maxHeartbeats 400000 in
set_option maxRecDepth 100000 in
theorem e_X9_roomBeside {Γ : rhG} {R : Nat → Nat → Nat} {v0 : Nat} (hO_9_v0 : Sh9 Γ R v0) {s : ryS} : ∀ (v1 : Int32) (v2 : Int32), f_X9_roomBeside Γ (ryM s R) v0 v1 v2 = g_X9_roomBeside s v0 v1 v2 := by
  have z9v0 := hO_9_v0
  obtain ⟨q9v0_0, q9v0_1, q9v0_2, q9v0_3, q9v0_4, q9v0_5, q9v0_6, q9v0_7, q9v0_8, q9v0_9, q9v0_10, q9v0_11, q9v0_12, q9v0_13, q9v0_14, q9v0_15, q9v0_16, hO_1_v0⟩ := z9v0
  obtain ⟨q1v0_0, q1v0_1, q1v0_2, q1v0_3, q1v0_4, q1v0_5, q1v0_6, q1v0_7, q1v0_8, q1v0_9, q1v0_10, q1v0_11, q1v0_12⟩ := hO_1_v0
  intros
  simp only [f_X9_roomBeside, g_X9_roomBeside, rhck, ryM_1, ryM_2, ryM_3, ry_si, ry_sl, if_true, ry_ck, Option.map_some, Option.map_none, ry_ite, ry_bm, ry_mb, Nat.add_assoc, Nat.reduceAdd, Option.some_bind, Option.bind_some, q9v0_0, q9v0_1, q9v0_2, q9v0_3, q9v0_4, q9v0_5, q9v0_6, q9v0_7, q9v0_8, q9v0_9, q9v0_10, q9v0_11, q9v0_12, q9v0_13, q9v0_14, q9v0_15, q9v0_16, q1v0_0, q1v0_1, q1v0_2, q1v0_3, q1v0_4, q1v0_5, q1v0_6, q1v0_7, q1v0_8, q1v0_9, q1v0_10, q1v0_11, q1v0_12]
def g_X9_allows (s : ryS) (v0 : Nat) (v1 : Int32) (v2 : Int32) (v3 : Int32) (v4 : Int32) : Option (Int32 × ryS) :=
    rhck (0 ≤ (v2).toInt ∧ (v2).toInt < (256 : Nat)) <|
    let x1 := s.1 ((v0 + 2)) v2.toNatClampNeg
    if (s.1 v0 2) < x1 then
      (some ((0, s)))
    else
      rhck (0 ≤ (v2).toInt ∧ (v2).toInt < (256 : Nat)) <|
      if (s.1 v0 3) < (s.1 ((v0 + 3)) v2.toNatClampNeg) then
        (some ((0, s)))
      else
        (g_X9_roomBeside s v0 v3 v4).bind fun r2 =>
        if r2 < x1 then
          (some ((0, s)))
        else
          (g_X9_roomBeside s v0 v3 v4).bind fun r3 =>
          (g_X1_comesTo s ((v0 + 6)) v1 v2 v3 r3 (s.1 ((v0 + 3)) v2.toNatClampNeg) x1).bind fun r4 =>
          if r4.1 = 0 then
            (some ((0, r4.2)))
          else
            some ((1, r4.2))
set_option maxHeartbeats 400000 in
set_option maxRecDepth 100000 in
theorem e_X9_allows {Γ : rhG} {R : Nat → Nat → Nat} {v0 : Nat} (hO_9_v0 : Sh9 Γ R v0) : ∀ (s : ryS) (v1 : Int32) (v2 : Int32) (v3 : Int32) (v4 : Int32), f_X9_allows Γ (ryM s R) v0 v1 v2 v3 v4 = Option.map (fun q => (q.1, ryM q.2 R)) (g_X9_allows s v0 v1 v2 v3 v4) := by
  have z9v0 := hO_9_v0
  obtain ⟨q9v0_0, q9v0_1, q9v0_2, q9v0_3, q9v0_4, q9v0_5, q9v0_6, q9v0_7, q9v0_8, q9v0_9, q9v0_10, q9v0_11, q9v0_12, q9v0_13, q9v0_14, q9v0_15, q9v0_16, hO_1_v0⟩ := z9v0
  obtain ⟨q1v0_0, q1v0_1, q1v0_2, q1v0_3, q1v0_4, q1v0_5, q1v0_6, q1v0_7, q1v0_8, q1v0_9, q1v0_10, q1v0_11, q1v0_12⟩ := hO_1_v0
  intros
  simp only [f_X9_allows, g_X9_allows, rhck, ryM_1, ryM_2, ryM_3, ry_si, ry_sl, if_true, ry_ck, Option.map_some, Option.map_none, ry_ite, ry_bm, ry_mb, Nat.add_assoc, Nat.reduceAdd, Option.some_bind, Option.bind_some, q9v0_0, q9v0_1, q9v0_2, q9v0_3, q9v0_4, q9v0_5, q9v0_6, q9v0_7, q9v0_8, q9v0_9, q9v0_10, q9v0_11, q9v0_12, q9v0_13, q9v0_14, q9v0_15, q9v0_16, q1v0_0, q1v0_1, q1v0_2, q1v0_3, q1v0_4, q1v0_5, q1v0_6, q1v0_7, q1v0_8, q1v0_9, q1v0_10, q1v0_11, q1v0_12, e_X9_roomBeside hO_9_v0, e_X9_roomBeside hO_9_v0, e_X1_comesTo (sh9_1 hO_9_v0)]
def g_X2_allows_48 (t : Nat) (kn : Nat) (s : ryS) (v0 : Nat) (v1 : Int32) (v2 : Int32) (v3 : Int32) (v4 : Int32) : Option (Int32 × ryS) :=
    (g_X9_allows s t v1 v2 v3 v4).bind fun r3 =>
    rhck (r3.1 = 0 ∨ r3.1 = 1) <|
    some ((r3.1, r3.2))
def g_X2_allows_97 (t : Nat) (kn : Nat) (k99 : ryS → Nat → Int32 → Option (Int32 × ryS)) (s : ryS) (v0 : Nat) (v6 : Int32) (w1 : Int32) (w2 : Int32) : Option (Int32 × ryS) :=
    rhck (0 ≤ (w1).toInt ∧ (w1).toInt < kn) <|
    let s5 := rysi s ((v0 + 1)) (w1 : Int32).toNatClampNeg ((vp_nar .byte w2.toInt8.toInt32))
    k99 s5 v0 v6
def g_X2_allows_99 (t : Nat) (kn : Nat) (s : ryS) (v0 : Nat) (v6 : Int32) : Option (Int32 × ryS) :=
    rhck (0 ≤ (v6).toInt ∧ (v6).toInt < kn) <|
    if (s.1 ((v0 + 1)) v6.toNatClampNeg) = 1 then
      (some ((1, s)))
    else
      some ((0, s))
def g_X2_allows (t : Nat) (kn : Nat) (s : ryS) (v0 : Nat) (v1 : Int32) (v2 : Int32) (v3 : Int32) (v4 : Int32) : Option (Int32 × ryS) :=
    let x1 := s.1 t 1
    let x2 := (((((v1 * (s.1 t 0)) + v3) <<< (x1 &&& 31)) ||| v2) <<< (x1 &&& 31)) ||| v4
    if x2 < 0 then
      (g_X2_allows_48 t kn s v0 v1 v2 v3 v4)
    else
      if x2 < (Int32.ofNat kn) then
        (rhck (0 ≤ (x2).toInt ∧ (x2).toInt < kn) <|
        if (s.1 ((v0 + 1)) x2.toNatClampNeg) = 0 then
          ((g_X9_allows s t v1 v2 v3 v4).bind fun r4 =>
          if r4.1 = 0 then
            (g_X2_allows_97 t kn (g_X2_allows_99 t kn) r4.2 v0 x2 x2 2)
          else
            g_X2_allows_97 t kn (g_X2_allows_99 t kn) r4.2 v0 x2 x2 1)
        else
          g_X2_allows_99 t kn s v0 x2)
      else
        g_X2_allows_48 t kn s v0 v1 v2 v3 v4
set_option maxHeartbeats 400000 in
set_option maxRecDepth 100000 in
theorem e_X2_allows_48 {Γ : rhG} {R : Nat → Nat → Nat} {t : Nat} {kn : Nat} {v0 : Nat} (hO_2_v0 : Sh2 Γ R v0 t kn) (hO_9_t : Sh9 Γ R t) : ∀ (s : ryS) (v1 : Int32) (v2 : Int32) (v3 : Int32) (v4 : Int32), f_X2_allows_48 Γ (ryM s R) v0 v1 v2 v3 v4 = Option.map (fun q => (q.1, ryM q.2 R)) (g_X2_allows_48 t kn s v0 v1 v2 v3 v4) := by
  have z2v0 := hO_2_v0
  obtain ⟨q2v0_0, q2v0_1, q2v0_2, q2v0_3, q2v0_4⟩ := z2v0
  have z9t := hO_9_t
  obtain ⟨q9t_0, q9t_1, q9t_2, q9t_3, q9t_4, q9t_5, q9t_6, q9t_7, q9t_8, q9t_9, q9t_10, q9t_11, q9t_12, q9t_13, q9t_14, q9t_15, q9t_16, hO_1_t⟩ := z9t
  obtain ⟨q1t_0, q1t_1, q1t_2, q1t_3, q1t_4, q1t_5, q1t_6, q1t_7, q1t_8, q1t_9, q1t_10, q1t_11, q1t_12⟩ := hO_1_t
  intros
  simp only [f_X2_allows_48, g_X2_allows_48, rhck, ryM_1, ryM_2, ryM_3, ry_si, ry_sl, if_true, ry_ck, Option.map_some, Option.map_none, ry_ite, ry_bm, ry_mb, Nat.add_assoc, Nat.reduceAdd, Option.some_bind, Option.bind_some, q2v0_0, q2v0_1, q2v0_2, q2v0_3, q2v0_4, q9t_0, q9t_1, q9t_2, q9t_3, q9t_4, q9t_5, q9t_6, q9t_7, q9t_8, q9t_9, q9t_10, q9t_11, q9t_12, q9t_13, q9t_14, q9t_15, q9t_16, q1t_0, q1t_1, q1t_2, q1t_3, q1t_4, q1t_5, q1t_6, q1t_7, q1t_8, q1t_9, q1t_10, q1t_11, q1t_12, e_X9_allows hO_9_t]
set_option maxHeartbeats 400000 in
set_option maxRecDepth 100000 in
theorem e_X2_allows_97 {Γ : rhG} {R : Nat → Nat → Nat} {t : Nat} {kn : Nat} {v0 : Nat} (hO_2_v0 : Sh2 Γ R v0 t kn) (hO_9_t : Sh9 Γ R t) {f99 : rhM → Nat → Int32 → Option (Int32 × rhM)} {k99 : ryS → Nat → Int32 → Option (Int32 × ryS)} (hk99 : ∀ (s : ryS) (v0 : Nat) (v6 : Int32), f99 (ryM s R) v0 v6 = Option.map (fun q => (q.1, ryM q.2 R)) (k99 s v0 v6)) : ∀ (s : ryS) (v6 : Int32) (w1 : Int32) (w2 : Int32), f_X2_allows_97 f99 Γ (ryM s R) v0 v6 ((v0 + 1)) w1 w2 = Option.map (fun q => (q.1, ryM q.2 R)) (g_X2_allows_97 t kn k99 s v0 v6 w1 w2) := by
  have z2v0 := hO_2_v0
  obtain ⟨q2v0_0, q2v0_1, q2v0_2, q2v0_3, q2v0_4⟩ := z2v0
  have z9t := hO_9_t
  obtain ⟨q9t_0, q9t_1, q9t_2, q9t_3, q9t_4, q9t_5, q9t_6, q9t_7, q9t_8, q9t_9, q9t_10, q9t_11, q9t_12, q9t_13, q9t_14, q9t_15, q9t_16, hO_1_t⟩ := z9t
  obtain ⟨q1t_0, q1t_1, q1t_2, q1t_3, q1t_4, q1t_5, q1t_6, q1t_7, q1t_8, q1t_9, q1t_10, q1t_11, q1t_12⟩ := hO_1_t
  intros
  simp only [f_X2_allows_97, g_X2_allows_97, rhck, ryM_1, ryM_2, ryM_3, ry_si, ry_sl, if_true, ry_ck, Option.map_some, Option.map_none, ry_ite, ry_bm, ry_mb, Nat.add_assoc, Nat.reduceAdd, Option.some_bind, Option.bind_some, q2v0_0, q2v0_1, q2v0_2, q2v0_3, q2v0_4, q9t_0, q9t_1, q9t_2, q9t_3, q9t_4, q9t_5, q9t_6, q9t_7, q9t_8, q9t_9, q9t_10, q9t_11, q9t_12, q9t_13, q9t_14, q9t_15, q9t_16, q1t_0, q1t_1, q1t_2, q1t_3, q1t_4, q1t_5, q1t_6, q1t_7, q1t_8, q1t_9, q1t_10, q1t_11, q1t_12, hk99]
set_option maxHeartbeats 400000 in
set_option maxRecDepth 100000 in
theorem e_X2_allows_99 {Γ : rhG} {R : Nat → Nat → Nat} {t : Nat} {kn : Nat} {v0 : Nat} (hO_2_v0 : Sh2 Γ R v0 t kn) (hO_9_t : Sh9 Γ R t) : ∀ (s : ryS) (v6 : Int32), f_X2_allows_99 Γ (ryM s R) v0 v6 = Option.map (fun q => (q.1, ryM q.2 R)) (g_X2_allows_99 t kn s v0 v6) := by
  have z2v0 := hO_2_v0
  obtain ⟨q2v0_0, q2v0_1, q2v0_2, q2v0_3, q2v0_4⟩ := z2v0
  have z9t := hO_9_t
  obtain ⟨q9t_0, q9t_1, q9t_2, q9t_3, q9t_4, q9t_5, q9t_6, q9t_7, q9t_8, q9t_9, q9t_10, q9t_11, q9t_12, q9t_13, q9t_14, q9t_15, q9t_16, hO_1_t⟩ := z9t
  obtain ⟨q1t_0, q1t_1, q1t_2, q1t_3, q1t_4, q1t_5, q1t_6, q1t_7, q1t_8, q1t_9, q1t_10, q1t_11, q1t_12⟩ := hO_1_t
  intros
  simp only [f_X2_allows_99, g_X2_allows_99, rhck, ryM_1, ryM_2, ryM_3, ry_si, ry_sl, if_true, ry_ck, Option.map_some, Option.map_none, ry_ite, ry_bm, ry_mb, Nat.add_assoc, Nat.reduceAdd, Option.some_bind, Option.bind_some, q2v0_0, q2v0_1, q2v0_2, q2v0_3, q2v0_4, q9t_0, q9t_1, q9t_2, q9t_3, q9t_4, q9t_5, q9t_6, q9t_7, q9t_8, q9t_9, q9t_10, q9t_11, q9t_12, q9t_13, q9t_14, q9t_15, q9t_16, q1t_0, q1t_1, q1t_2, q1t_3, q1t_4, q1t_5, q1t_6, q1t_7, q1t_8, q1t_9, q1t_10, q1t_11, q1t_12]
set_option maxHeartbeats 400000 in
set_option maxRecDepth 100000 in
theorem e_X2_allows {Γ : rhG} {R : Nat → Nat → Nat} {t : Nat} {kn : Nat} {v0 : Nat} (hO_2_v0 : Sh2 Γ R v0 t kn) (hO_9_t : Sh9 Γ R t) : ∀ (s : ryS) (v1 : Int32) (v2 : Int32) (v3 : Int32) (v4 : Int32), f_X2_allows Γ (ryM s R) v0 v1 v2 v3 v4 = Option.map (fun q => (q.1, ryM q.2 R)) (g_X2_allows t kn s v0 v1 v2 v3 v4) := by
  have z2v0 := hO_2_v0
  obtain ⟨q2v0_0, q2v0_1, q2v0_2, q2v0_3, q2v0_4⟩ := z2v0
  have z9t := hO_9_t
  obtain ⟨q9t_0, q9t_1, q9t_2, q9t_3, q9t_4, q9t_5, q9t_6, q9t_7, q9t_8, q9t_9, q9t_10, q9t_11, q9t_12, q9t_13, q9t_14, q9t_15, q9t_16, hO_1_t⟩ := z9t
  obtain ⟨q1t_0, q1t_1, q1t_2, q1t_3, q1t_4, q1t_5, q1t_6, q1t_7, q1t_8, q1t_9, q1t_10, q1t_11, q1t_12⟩ := hO_1_t
  intros
  simp only [f_X2_allows, g_X2_allows, rhck, ryM_1, ryM_2, ryM_3, ry_si, ry_sl, if_true, ry_ck, Option.map_some, Option.map_none, ry_ite, ry_bm, ry_mb, Nat.add_assoc, Nat.reduceAdd, Option.some_bind, Option.bind_some, q2v0_0, q2v0_1, q2v0_2, q2v0_3, q2v0_4, q9t_0, q9t_1, q9t_2, q9t_3, q9t_4, q9t_5, q9t_6, q9t_7, q9t_8, q9t_9, q9t_10, q9t_11, q9t_12, q9t_13, q9t_14, q9t_15, q9t_16, q1t_0, q1t_1, q1t_2, q1t_3, q1t_4, q1t_5, q1t_6, q1t_7, q1t_8, q1t_9, q1t_10, q1t_11, q1t_12, e_X9_allows hO_9_t, e_X2_allows_48 hO_2_v0 hO_9_t, e_X2_allows_97 hO_2_v0 hO_9_t (e_X2_allows_99 hO_2_v0 hO_9_t), e_X2_allows_99 hO_2_v0 hO_9_t]
def g_X2_placesFor (s : ryS) (v0 : Int32) (v1 : Int32) : Option (Int32) :=
    some ((v1 * v1) <<< ((2 * v0) &&& 31))
set_option maxHeartbeats 400000 in
set_option maxRecDepth 100000 in
theorem e_X2_placesFor {Γ : rhG} {R : Nat → Nat → Nat} {s : ryS} : ∀ (v0 : Int32) (v1 : Int32), f_X2_placesFor Γ (ryM s R) v0 v1 = g_X2_placesFor s v0 v1 := by
  intros
  simp only [f_X2_placesFor, g_X2_placesFor, rhck, ryM_1, ryM_2, ryM_3, ry_si, ry_sl, if_true, ry_ck, Option.map_some, Option.map_none, ry_ite, ry_bm, ry_mb, Nat.add_assoc, Nat.reduceAdd, Option.some_bind, Option.bind_some]
def g_X3_add (c : Nat) (cl : Nat) (s : ryS) (v0 : Nat) (v1 : Int32) : Option (Int32 × ryS) :=
    if (s.1 v0 1) < (Int32.ofNat cl) then
      (rhck (0 ≤ (s.1 v0 1).toInt ∧ (s.1 v0 1).toInt < cl) <|
      let s1 := rysi s c (s.1 v0 1 : Int32).toNatClampNeg v1
      let s2 := rysi s1 v0 1 ((s1.1 v0 1) + 1)
      some ((1, s2)))
    else
      some ((0, s))
set_option maxHeartbeats 400000 in
set_option maxRecDepth 100000 in
theorem e_X3_add {Γ : rhG} {R : Nat → Nat → Nat} {c : Nat} {cl : Nat} {v0 : Nat} (hO_3_v0 : Sh3 Γ R v0 c cl) : ∀ (s : ryS) (v1 : Int32), f_X3_add Γ (ryM s R) v0 v1 = Option.map (fun q => (q.1, ryM q.2 R)) (g_X3_add c cl s v0 v1) := by
  have z3v0 := hO_3_v0
  obtain ⟨q3v0_0, q3v0_1, q3v0_2, q3v0_3⟩ := z3v0
  intros
  simp only [f_X3_add, g_X3_add, rhck, ryM_1, ryM_2, ryM_3, ry_si, ry_sl, if_true, ry_ck, Option.map_some, Option.map_none, ry_ite, ry_bm, ry_mb, Nat.add_assoc, Nat.reduceAdd, Option.some_bind, Option.bind_some, q3v0_0, q3v0_1, q3v0_2, q3v0_3]
def g_X3_code (s : ryS) (v0 : Int32) (v1 : Int32) (v2 : Int32) : Option (Int32) :=
    some (((100 * v0) + (10 * v1)) + v2)
set_option maxHeartbeats 400000 in
set_option maxRecDepth 100000 in
theorem e_X3_code {Γ : rhG} {R : Nat → Nat → Nat} {s : ryS} : ∀ (v0 : Int32) (v1 : Int32) (v2 : Int32), f_X3_code Γ (ryM s R) v0 v1 v2 = g_X3_code s v0 v1 v2 := by
  intros
  simp only [f_X3_code, g_X3_code, rhck, ryM_1, ryM_2, ryM_3, ry_si, ry_sl, if_true, ry_ck, Option.map_some, Option.map_none, ry_ite, ry_bm, ry_mb, Nat.add_assoc, Nat.reduceAdd, Option.some_bind, Option.bind_some]
def g_X3_fromOf (s : ryS) (v0 : Int32) : Option (Int32) :=
    some (v0 / 100)
set_option maxHeartbeats 400000 in
set_option maxRecDepth 100000 in
theorem e_X3_fromOf {Γ : rhG} {R : Nat → Nat → Nat} {s : ryS} : ∀ (v0 : Int32), f_X3_fromOf Γ (ryM s R) v0 = g_X3_fromOf s v0 := by
  intros
  simp only [f_X3_fromOf, g_X3_fromOf, rhck, ryM_1, ryM_2, ryM_3, ry_si, ry_sl, if_true, ry_ck, Option.map_some, Option.map_none, ry_ite, ry_bm, ry_mb, Nat.add_assoc, Nat.reduceAdd, Option.some_bind, Option.bind_some]
def g_X3_manyOf (s : ryS) (v0 : Int32) : Option (Int32) :=
    some ((v0 / 10) - (v0 / 10) / 10 * 10)
set_option maxHeartbeats 400000 in
set_option maxRecDepth 100000 in
theorem e_X3_manyOf {Γ : rhG} {R : Nat → Nat → Nat} {s : ryS} : ∀ (v0 : Int32), f_X3_manyOf Γ (ryM s R) v0 = g_X3_manyOf s v0 := by
  intros
  simp only [f_X3_manyOf, g_X3_manyOf, rhck, ryM_1, ryM_2, ryM_3, ry_si, ry_sl, if_true, ry_ck, Option.map_some, Option.map_none, ry_ite, ry_bm, ry_mb, Nat.add_assoc, Nat.reduceAdd, Option.some_bind, Option.bind_some]
def g_X3_toOf (s : ryS) (v0 : Int32) : Option (Int32) :=
    some (v0 - v0 / 10 * 10)
set_option maxHeartbeats 400000 in
set_option maxRecDepth 100000 in
theorem e_X3_toOf {Γ : rhG} {R : Nat → Nat → Nat} {s : ryS} : ∀ (v0 : Int32), f_X3_toOf Γ (ryM s R) v0 = g_X3_toOf s v0 := by
  intros
  simp only [f_X3_toOf, g_X3_toOf, rhck, ryM_1, ryM_2, ryM_3, ry_si, ry_sl, if_true, ry_ck, Option.map_some, Option.map_none, ry_ite, ry_bm, ry_mb, Nat.add_assoc, Nat.reduceAdd, Option.some_bind, Option.bind_some]
def g_X4_blame (s : ryS) (v1 : Int32) (v2 : Int32) : Option (ryS) :=
    if (s.1 3 0) = 0 then
      (let s1 := rysi s 3 0 v1
      let s2 := rysi s1 3 1 v2
      some s2)
    else
      some s
set_option maxHeartbeats 400000 in
set_option maxRecDepth 100000 in
theorem e_X4_blame {Γ : rhG} {R : Nat → Nat → Nat} (hS : ShS Γ R) : ∀ (s : ryS) (v1 : Int32) (v2 : Int32), f_X4_blame Γ (ryM s R) 3 v1 v2 = Option.map (fun s => ryM s R) (g_X4_blame s v1 v2) := by
  intros
  simp only [f_X4_blame, g_X4_blame, rhck, ryM_1, ryM_2, ryM_3, ry_si, ry_sl, if_true, ry_ck, Option.map_some, Option.map_none, ry_ite, ry_bm, ry_mb, Nat.add_assoc, Nat.reduceAdd, Option.some_bind, Option.bind_some, ssk_3 hS]
def g_X4_refuse_17 (s : ryS) (w1 : Int32) : Option (ryS) :=
    (g_X4_blame s w1 (s.1 4 5)).bind fun r1 =>
    some r1
def g_X4_refuse (s : ryS) : Option (ryS) :=
    if (s.1 4 4) = 1 then
      (g_X4_refuse_17 s 1)
    else
      g_X4_refuse_17 s 2
set_option maxHeartbeats 400000 in
set_option maxRecDepth 100000 in
theorem e_X4_refuse_17 {Γ : rhG} {R : Nat → Nat → Nat} (hS : ShS Γ R) : ∀ (s : ryS) (w1 : Int32), f_X4_refuse_17 Γ (ryM s R) 3 3 w1 = Option.map (fun s => ryM s R) (g_X4_refuse_17 s w1) := by
  intros
  simp only [f_X4_refuse_17, g_X4_refuse_17, rhck, ryM_1, ryM_2, ryM_3, ry_si, ry_sl, if_true, ry_ck, Option.map_some, Option.map_none, ry_ite, ry_bm, ry_mb, Nat.add_assoc, Nat.reduceAdd, Option.some_bind, Option.bind_some, ssk_3 hS, ssk_4 hS, ssr_3_2 hS, e_X4_blame hS]
set_option maxHeartbeats 400000 in
set_option maxRecDepth 100000 in
theorem e_X4_refuse {Γ : rhG} {R : Nat → Nat → Nat} (hS : ShS Γ R) : ∀ (s : ryS), f_X4_refuse Γ (ryM s R) 3 = Option.map (fun s => ryM s R) (g_X4_refuse s) := by
  intros
  simp only [f_X4_refuse, g_X4_refuse, rhck, ryM_1, ryM_2, ryM_3, ry_si, ry_sl, if_true, ry_ck, Option.map_some, Option.map_none, ry_ite, ry_bm, ry_mb, Nat.add_assoc, Nat.reduceAdd, Option.some_bind, Option.bind_some, ssk_3 hS, ssk_4 hS, ssr_3_2 hS, e_X4_refuse_17 hS]
def g_X8_isDigit (s : ryS) (v0 : Int32) : Option (Int32) :=
    if v0 < 48 then
      (some 0)
    else
      if 57 < v0 then
        (some 0)
      else
        some 1
set_option maxHeartbeats 400000 in
set_option maxRecDepth 100000 in
theorem e_X8_isDigit {Γ : rhG} {R : Nat → Nat → Nat} {s : ryS} : ∀ (v0 : Int32), f_X8_isDigit Γ (ryM s R) v0 = g_X8_isDigit s v0 := by
  intros
  simp only [f_X8_isDigit, g_X8_isDigit, rhck, ryM_1, ryM_2, ryM_3, ry_si, ry_sl, if_true, ry_ck, Option.map_some, Option.map_none, ry_ite, ry_bm, ry_mb, Nat.add_assoc, Nat.reduceAdd, Option.some_bind, Option.bind_some]
def g_X8_isLetter (s : ryS) (v0 : Int32) : Option (Int32) :=
    if v0 < 97 then
      (some 0)
    else
      if 122 < v0 then
        (some 0)
      else
        some 1
set_option maxHeartbeats 400000 in
set_option maxRecDepth 100000 in
theorem e_X8_isLetter {Γ : rhG} {R : Nat → Nat → Nat} {s : ryS} : ∀ (v0 : Int32), f_X8_isLetter Γ (ryM s R) v0 = g_X8_isLetter s v0 := by
  intros
  simp only [f_X8_isLetter, g_X8_isLetter, rhck, ryM_1, ryM_2, ryM_3, ry_si, ry_sl, if_true, ry_ck, Option.map_some, Option.map_none, ry_ite, ry_bm, ry_mb, Nat.add_assoc, Nat.reduceAdd, Option.some_bind, Option.bind_some]
def g_X8_readNumber_68 (k5 : ryS → Option (ryS)) (s : ryS) : Option (ryS) :=
    let s4 := rysi s 4 3 ((s.1 4 3) + 1)
    k5 s4
def g_X8_readNumber_5 (k81 : ryS → Option (ryS)) : Nat → ryS → Option (ryS)
  | 0, _ => none
  | n + 1, s =>
    if (s.1 4 3) < (s.1 4 2) then
      (rhck (0 ≤ (s.1 4 3).toInt ∧ (s.1 4 3).toInt < (1600 : Nat)) <|
      (g_X8_isDigit s (s.1 2 (s.1 4 3).toNatClampNeg)).bind fun r2 =>
      if r2 = 0 then
        (k81 s)
      else
        if ((s.1 4 3) - (s.1 4 5)) < 4 then
          (let s3 := rysi s 4 8 ((((s.1 4 8) * 10) + (s.1 2 (s.1 4 3).toNatClampNeg)) - 48)
          g_X8_readNumber_68 (g_X8_readNumber_5 k81 n) s3)
        else
          g_X8_readNumber_68 (g_X8_readNumber_5 k81 n) s)
    else
      k81 s
def g_X8_readNumber_111 (k112 : ryS → Int32 → Option (ryS)) (s : ryS) : Option (ryS) :=
    k112 s 0
def g_X8_readNumber_131 (k136 : ryS → Int32 → Option (ryS)) (s : ryS) : Option (ryS) :=
    k136 s 1
def g_X8_readNumber_136 (s : ryS) (w1 : Int32) : Option (ryS) :=
    let s6 := rysi s 4 4 w1
    some s6
def g_X8_readNumber_112 (s : ryS) (w0 : Int32) : Option (ryS) :=
    if 4 < ((s.1 4 3) - (s.1 4 5)) then
      (g_X8_readNumber_131 (g_X8_readNumber_136) s)
    else
      if w0 = 0 then
        (g_X8_readNumber_136 s 4)
      else
        g_X8_readNumber_131 (g_X8_readNumber_136) s
def g_X8_readNumber_81 (s : ryS) : Option (ryS) :=
    if (s.1 4 3) < (s.1 4 2) then
      (rhck (0 ≤ (s.1 4 3).toInt ∧ (s.1 4 3).toInt < (1600 : Nat)) <|
      (g_X8_isLetter s (s.1 2 (s.1 4 3).toNatClampNeg)).bind fun r5 =>
      if r5 = 0 then
        (g_X8_readNumber_111 (g_X8_readNumber_112) s)
      else
        g_X8_readNumber_112 s 1)
    else
      g_X8_readNumber_111 (g_X8_readNumber_112) s
def g_X8_readNumber (s : ryS) : Option (ryS) :=
    let s1 := rysi s 4 8 0
    g_X8_readNumber_5 (g_X8_readNumber_81) rhFU s1
set_option maxHeartbeats 400000 in
set_option maxRecDepth 100000 in
theorem e_X8_readNumber_68 {Γ : rhG} {R : Nat → Nat → Nat} (hS : ShS Γ R) (hb_4_1 : R 4 1 = 2) {f5 : rhM → Nat → Option (rhM)} {k5 : ryS → Option (ryS)} (hk5 : ∀ (s : ryS), f5 (ryM s R) 4 = Option.map (fun s => ryM s R) (k5 s)) : ∀ (s : ryS), f_X8_readNumber_68 f5 Γ (ryM s R) 4 = Option.map (fun s => ryM s R) (g_X8_readNumber_68 k5 s) := by
  intros
  simp only [f_X8_readNumber_68, g_X8_readNumber_68, rhck, ryM_1, ryM_2, ryM_3, ry_si, ry_sl, if_true, ry_ck, Option.map_some, Option.map_none, ry_ite, ry_bm, ry_mb, Nat.add_assoc, Nat.reduceAdd, Option.some_bind, Option.bind_some, ssk_4 hS, hk5]
set_option maxHeartbeats 400000 in
set_option maxRecDepth 100000 in
theorem e_X8_readNumber_5 {Γ : rhG} {R : Nat → Nat → Nat} (hS : ShS Γ R) (hb_4_1 : R 4 1 = 2) {f81 : rhM → Nat → Option (rhM)} {k81 : ryS → Option (ryS)} (hk81 : ∀ (s : ryS), f81 (ryM s R) 4 = Option.map (fun s => ryM s R) (k81 s)) : ∀ (n : Nat) (s : ryS), f_X8_readNumber_5 f81 Γ n (ryM s R) 4 = Option.map (fun s => ryM s R) (g_X8_readNumber_5 k81 n s) := by
  intro n
  induction n with
  | zero => intros; simp only [f_X8_readNumber_5, g_X8_readNumber_5, Option.map_none]
  | succ n ih =>
    intros
    simp only [f_X8_readNumber_5, g_X8_readNumber_5, rhck, ryM_1, ryM_2, ryM_3, ry_si, ry_sl, if_true, ry_ck, Option.map_some, Option.map_none, ry_ite, ry_bm, ry_mb, Nat.add_assoc, Nat.reduceAdd, Option.some_bind, Option.bind_some, hb_4_1, ssk_2 hS, ssk_4 hS, ssl_2 hS, e_X8_isDigit, hk81, e_X8_readNumber_68 hS hb_4_1 ih, ih]
set_option maxHeartbeats 400000 in
set_option maxRecDepth 100000 in
theorem e_X8_readNumber_111 {Γ : rhG} {R : Nat → Nat → Nat} (hS : ShS Γ R) (hb_4_1 : R 4 1 = 2) {f112 : rhM → Nat → Int32 → Option (rhM)} {k112 : ryS → Int32 → Option (ryS)} (hk112 : ∀ (s : ryS) (w0 : Int32), f112 (ryM s R) 4 w0 = Option.map (fun s => ryM s R) (k112 s w0)) : ∀ (s : ryS), f_X8_readNumber_111 f112 Γ (ryM s R) 4 = Option.map (fun s => ryM s R) (g_X8_readNumber_111 k112 s) := by
  intros
  simp only [f_X8_readNumber_111, g_X8_readNumber_111, rhck, ryM_1, ryM_2, ryM_3, ry_si, ry_sl, if_true, ry_ck, Option.map_some, Option.map_none, ry_ite, ry_bm, ry_mb, Nat.add_assoc, Nat.reduceAdd, Option.some_bind, Option.bind_some, hk112]
set_option maxHeartbeats 400000 in
set_option maxRecDepth 100000 in
theorem e_X8_readNumber_131 {Γ : rhG} {R : Nat → Nat → Nat} (hS : ShS Γ R) (hb_4_1 : R 4 1 = 2) {f136 : rhM → Nat → Int32 → Option (rhM)} {k136 : ryS → Int32 → Option (ryS)} (hk136 : ∀ (s : ryS) (w1 : Int32), f136 (ryM s R) 4 w1 = Option.map (fun s => ryM s R) (k136 s w1)) : ∀ (s : ryS), f_X8_readNumber_131 f136 Γ (ryM s R) 4 = Option.map (fun s => ryM s R) (g_X8_readNumber_131 k136 s) := by
  intros
  simp only [f_X8_readNumber_131, g_X8_readNumber_131, rhck, ryM_1, ryM_2, ryM_3, ry_si, ry_sl, if_true, ry_ck, Option.map_some, Option.map_none, ry_ite, ry_bm, ry_mb, Nat.add_assoc, Nat.reduceAdd, Option.some_bind, Option.bind_some, hk136]
set_option maxHeartbeats 400000 in
set_option maxRecDepth 100000 in
theorem e_X8_readNumber_136 {Γ : rhG} {R : Nat → Nat → Nat} (hS : ShS Γ R) (hb_4_1 : R 4 1 = 2) : ∀ (s : ryS) (w1 : Int32), f_X8_readNumber_136 Γ (ryM s R) 4 w1 = Option.map (fun s => ryM s R) (g_X8_readNumber_136 s w1) := by
  intros
  simp only [f_X8_readNumber_136, g_X8_readNumber_136, rhck, ryM_1, ryM_2, ryM_3, ry_si, ry_sl, if_true, ry_ck, Option.map_some, Option.map_none, ry_ite, ry_bm, ry_mb, Nat.add_assoc, Nat.reduceAdd, Option.some_bind, Option.bind_some, ssk_4 hS]
set_option maxHeartbeats 400000 in
set_option maxRecDepth 100000 in
theorem e_X8_readNumber_112 {Γ : rhG} {R : Nat → Nat → Nat} (hS : ShS Γ R) (hb_4_1 : R 4 1 = 2) : ∀ (s : ryS) (w0 : Int32), f_X8_readNumber_112 Γ (ryM s R) 4 w0 = Option.map (fun s => ryM s R) (g_X8_readNumber_112 s w0) := by
  intros
  simp only [f_X8_readNumber_112, g_X8_readNumber_112, rhck, ryM_1, ryM_2, ryM_3, ry_si, ry_sl, if_true, ry_ck, Option.map_some, Option.map_none, ry_ite, ry_bm, ry_mb, Nat.add_assoc, Nat.reduceAdd, Option.some_bind, Option.bind_some, ssk_4 hS, e_X8_readNumber_131 hS hb_4_1 (e_X8_readNumber_136 hS hb_4_1), e_X8_readNumber_136 hS hb_4_1]
set_option maxHeartbeats 400000 in
set_option maxRecDepth 100000 in
theorem e_X8_readNumber_81 {Γ : rhG} {R : Nat → Nat → Nat} (hS : ShS Γ R) (hb_4_1 : R 4 1 = 2) : ∀ (s : ryS), f_X8_readNumber_81 Γ (ryM s R) 4 = Option.map (fun s => ryM s R) (g_X8_readNumber_81 s) := by
  intros
  simp only [f_X8_readNumber_81, g_X8_readNumber_81, rhck, ryM_1, ryM_2, ryM_3, ry_si, ry_sl, if_true, ry_ck, Option.map_some, Option.map_none, ry_ite, ry_bm, ry_mb, Nat.add_assoc, Nat.reduceAdd, Option.some_bind, Option.bind_some, hb_4_1, ssk_2 hS, ssk_4 hS, ssl_2 hS, e_X8_isLetter, e_X8_readNumber_111 hS hb_4_1 (e_X8_readNumber_112 hS hb_4_1), e_X8_readNumber_112 hS hb_4_1]
set_option maxHeartbeats 400000 in
set_option maxRecDepth 100000 in
theorem e_X8_readNumber {Γ : rhG} {R : Nat → Nat → Nat} (hS : ShS Γ R) (hb_4_1 : R 4 1 = 2) : ∀ (s : ryS), f_X8_readNumber Γ (ryM s R) 4 = Option.map (fun s => ryM s R) (g_X8_readNumber s) := by
  intros
  simp only [f_X8_readNumber, g_X8_readNumber, rhck, ryM_1, ryM_2, ryM_3, ry_si, ry_sl, if_true, ry_ck, Option.map_some, Option.map_none, ry_ite, ry_bm, ry_mb, Nat.add_assoc, Nat.reduceAdd, Option.some_bind, Option.bind_some, ssk_4 hS, e_X8_readNumber_5 hS hb_4_1 (e_X8_readNumber_81 hS hb_4_1), e_X8_readNumber_81 hS hb_4_1]
def g_X8_readSign_52 (k7 : ryS → Int32 → Option (ryS)) (s : ryS) (v1 : Int32) : Option (ryS) :=
    let x4 : Int32 := v1 + 1
    k7 s x4
def g_X8_readSign_7 (k58 : ryS → Option (ryS)) : Nat → ryS → Int32 → Option (ryS)
  | 0, _, _ => none
  | n + 1, s, v1 =>
    if v1 < (Int32.ofNat rhby1.length) then
      (rhck (0 ≤ (v1).toInt ∧ (v1).toInt < (rhby1.length : Nat)) <|
      rhck (0 ≤ (s.1 4 3).toInt ∧ (s.1 4 3).toInt < (1600 : Nat)) <|
      if (rhby1.getD v1.toNatClampNeg 0) = (s.1 2 (s.1 4 3).toNatClampNeg) then
        (let s2 := rysi s 4 4 5
        rhck (0 ≤ (s2.1 4 3).toInt ∧ (s2.1 4 3).toInt < (1600 : Nat)) <|
        let s3 := rysi s2 4 9 (s2.1 2 (s2.1 4 3).toNatClampNeg)
        g_X8_readSign_52 (g_X8_readSign_7 k58 n) s3 v1)
      else
        g_X8_readSign_52 (g_X8_readSign_7 k58 n) s v1)
    else
      k58 s
def g_X8_readSign_58 (s : ryS) : Option (ryS) :=
    let s5 := rysi s 4 3 ((s.1 4 3) + 1)
    some s5
def g_X8_readSign (s : ryS) : Option (ryS) :=
    let s1 := rysi s 4 4 1
    g_X8_readSign_7 (g_X8_readSign_58) rhFU s1 0
set_option maxHeartbeats 400000 in
set_option maxRecDepth 100000 in
theorem e_X8_readSign_52 {Γ : rhG} {R : Nat → Nat → Nat} (hS : ShS Γ R) (hb_4_1 : R 4 1 = 2) {f7 : rhM → Nat → Int32 → Option (rhM)} {k7 : ryS → Int32 → Option (ryS)} (hk7 : ∀ (s : ryS) (v1 : Int32), f7 (ryM s R) 4 v1 = Option.map (fun s => ryM s R) (k7 s v1)) : ∀ (s : ryS) (v1 : Int32), f_X8_readSign_52 f7 Γ (ryM s R) 4 v1 = Option.map (fun s => ryM s R) (g_X8_readSign_52 k7 s v1) := by
  intros
  simp only [f_X8_readSign_52, g_X8_readSign_52, rhck, ryM_1, ryM_2, ryM_3, ry_si, ry_sl, if_true, ry_ck, Option.map_some, Option.map_none, ry_ite, ry_bm, ry_mb, Nat.add_assoc, Nat.reduceAdd, Option.some_bind, Option.bind_some, hk7]
set_option maxHeartbeats 400000 in
set_option maxRecDepth 100000 in
theorem e_X8_readSign_7 {Γ : rhG} {R : Nat → Nat → Nat} (hS : ShS Γ R) (hb_4_1 : R 4 1 = 2) {f58 : rhM → Nat → Option (rhM)} {k58 : ryS → Option (ryS)} (hk58 : ∀ (s : ryS), f58 (ryM s R) 4 = Option.map (fun s => ryM s R) (k58 s)) : ∀ (n : Nat) (s : ryS) (v1 : Int32), f_X8_readSign_7 f58 Γ n (ryM s R) 4 v1 = Option.map (fun s => ryM s R) (g_X8_readSign_7 k58 n s v1) := by
  intro n
  induction n with
  | zero => intros; simp only [f_X8_readSign_7, g_X8_readSign_7, Option.map_none]
  | succ n ih =>
    intros
    simp only [f_X8_readSign_7, g_X8_readSign_7, rhck, ryM_1, ryM_2, ryM_3, ry_si, ry_sl, if_true, ry_ck, Option.map_some, Option.map_none, ry_ite, ry_bm, ry_mb, Nat.add_assoc, Nat.reduceAdd, Option.some_bind, Option.bind_some, hb_4_1, ssk_2 hS, ssk_4 hS, ssl_2 hS, hk58, e_X8_readSign_52 hS hb_4_1 ih, ih]
set_option maxHeartbeats 400000 in
set_option maxRecDepth 100000 in
theorem e_X8_readSign_58 {Γ : rhG} {R : Nat → Nat → Nat} (hS : ShS Γ R) (hb_4_1 : R 4 1 = 2) : ∀ (s : ryS), f_X8_readSign_58 Γ (ryM s R) 4 = Option.map (fun s => ryM s R) (g_X8_readSign_58 s) := by
  intros
  simp only [f_X8_readSign_58, g_X8_readSign_58, rhck, ryM_1, ryM_2, ryM_3, ry_si, ry_sl, if_true, ry_ck, Option.map_some, Option.map_none, ry_ite, ry_bm, ry_mb, Nat.add_assoc, Nat.reduceAdd, Option.some_bind, Option.bind_some, ssk_4 hS]
set_option maxHeartbeats 400000 in
set_option maxRecDepth 100000 in
theorem e_X8_readSign {Γ : rhG} {R : Nat → Nat → Nat} (hS : ShS Γ R) (hb_4_1 : R 4 1 = 2) : ∀ (s : ryS), f_X8_readSign Γ (ryM s R) 4 = Option.map (fun s => ryM s R) (g_X8_readSign s) := by
  intros
  simp only [f_X8_readSign, g_X8_readSign, rhck, ryM_1, ryM_2, ryM_3, ry_si, ry_sl, if_true, ry_ck, Option.map_some, Option.map_none, ry_ite, ry_bm, ry_mb, Nat.add_assoc, Nat.reduceAdd, Option.some_bind, Option.bind_some, ssk_4 hS, e_X8_readSign_7 hS hb_4_1 (e_X8_readSign_58 hS hb_4_1), e_X8_readSign_58 hS hb_4_1]
def g_X8_readWord_71 (k5 : ryS → Option (ryS)) (s : ryS) : Option (ryS) :=
    let s4 := rysi s 4 3 ((s.1 4 3) + 1)
    k5 s4
def g_X8_readWord_5 (k84 : ryS → Option (ryS)) : Nat → ryS → Option (ryS)
  | 0, _ => none
  | n + 1, s =>
    if (s.1 4 3) < (s.1 4 2) then
      (rhck (0 ≤ (s.1 4 3).toInt ∧ (s.1 4 3).toInt < (1600 : Nat)) <|
      (g_X8_isLetter s (s.1 2 (s.1 4 3).toNatClampNeg)).bind fun r2 =>
      if r2 = 0 then
        (k84 s)
      else
        if ((s.1 4 3) - (s.1 4 5)) < 8 then
          (let s3 := rysl s 4 6 ((rhsh (s.2 4 6) 5) ||| (Int32.toInt64 (((s.1 2 (s.1 4 3).toNatClampNeg) - 97) + 1)))
          g_X8_readWord_71 (g_X8_readWord_5 k84 n) s3)
        else
          g_X8_readWord_71 (g_X8_readWord_5 k84 n) s)
    else
      k84 s
def g_X8_readWord_141 (k111 : ryS → Int32 → Option (ryS)) (s : ryS) (v1 : Int32) : Option (ryS) :=
    let x9 : Int32 := v1 + 1
    k111 s x9
def g_X8_readWord_111 : Nat → ryS → Int32 → Option (ryS)
  | 0, _, _ => none
  | n + 1, s, v1 =>
    if v1 < 18 then
      (rhck (0 ≤ (v1).toInt ∧ (v1).toInt < (18 : Nat)) <|
      if (s.2 5 v1.toNatClampNeg) = (s.2 4 6) then
        (let s7 := rysi s 4 4 3
        let s8 := rysi s7 4 7 v1
        g_X8_readWord_141 (g_X8_readWord_111 n) s8 v1)
      else
        g_X8_readWord_141 (g_X8_readWord_111 n) s v1)
    else
      some s
def g_X8_readWord_84 (s : ryS) : Option (ryS) :=
    if 8 < ((s.1 4 3) - (s.1 4 5)) then
      (let s5 := rysi s 4 4 1
      some s5)
    else
      let s6 := rysi s 4 4 2
      g_X8_readWord_111 rhFU s6 0
def g_X8_readWord (s : ryS) : Option (ryS) :=
    let s1 := rysl s 4 6 ((0 : Int64))
    g_X8_readWord_5 (g_X8_readWord_84) rhFU s1
set_option maxHeartbeats 400000 in
set_option maxRecDepth 100000 in
theorem e_X8_readWord_71 {Γ : rhG} {R : Nat → Nat → Nat} (hS : ShS Γ R) (hb_4_1 : R 4 1 = 2) {f5 : rhM → Nat → Option (rhM)} {k5 : ryS → Option (ryS)} (hk5 : ∀ (s : ryS), f5 (ryM s R) 4 = Option.map (fun s => ryM s R) (k5 s)) : ∀ (s : ryS), f_X8_readWord_71 f5 Γ (ryM s R) 4 = Option.map (fun s => ryM s R) (g_X8_readWord_71 k5 s) := by
  intros
  simp only [f_X8_readWord_71, g_X8_readWord_71, rhck, ryM_1, ryM_2, ryM_3, ry_si, ry_sl, if_true, ry_ck, Option.map_some, Option.map_none, ry_ite, ry_bm, ry_mb, Nat.add_assoc, Nat.reduceAdd, Option.some_bind, Option.bind_some, ssk_4 hS, hk5]
set_option maxHeartbeats 400000 in
set_option maxRecDepth 100000 in
theorem e_X8_readWord_5 {Γ : rhG} {R : Nat → Nat → Nat} (hS : ShS Γ R) (hb_4_1 : R 4 1 = 2) {f84 : rhM → Nat → Option (rhM)} {k84 : ryS → Option (ryS)} (hk84 : ∀ (s : ryS), f84 (ryM s R) 4 = Option.map (fun s => ryM s R) (k84 s)) : ∀ (n : Nat) (s : ryS), f_X8_readWord_5 f84 Γ n (ryM s R) 4 = Option.map (fun s => ryM s R) (g_X8_readWord_5 k84 n s) := by
  intro n
  induction n with
  | zero => intros; simp only [f_X8_readWord_5, g_X8_readWord_5, Option.map_none]
  | succ n ih =>
    intros
    simp only [f_X8_readWord_5, g_X8_readWord_5, rhck, ryM_1, ryM_2, ryM_3, ry_si, ry_sl, if_true, ry_ck, Option.map_some, Option.map_none, ry_ite, ry_bm, ry_mb, Nat.add_assoc, Nat.reduceAdd, Option.some_bind, Option.bind_some, hb_4_1, ssk_2 hS, ssk_4 hS, ssl_2 hS, e_X8_isLetter, hk84, e_X8_readWord_71 hS hb_4_1 ih, ih]
set_option maxHeartbeats 400000 in
set_option maxRecDepth 100000 in
theorem e_X8_readWord_141 {Γ : rhG} {R : Nat → Nat → Nat} (hS : ShS Γ R) (hb_4_1 : R 4 1 = 2) {f111 : rhM → Nat → Int32 → Option (rhM)} {k111 : ryS → Int32 → Option (ryS)} (hk111 : ∀ (s : ryS) (v1 : Int32), f111 (ryM s R) 4 v1 = Option.map (fun s => ryM s R) (k111 s v1)) : ∀ (s : ryS) (v1 : Int32), f_X8_readWord_141 f111 Γ (ryM s R) 4 v1 = Option.map (fun s => ryM s R) (g_X8_readWord_141 k111 s v1) := by
  intros
  simp only [f_X8_readWord_141, g_X8_readWord_141, rhck, ryM_1, ryM_2, ryM_3, ry_si, ry_sl, if_true, ry_ck, Option.map_some, Option.map_none, ry_ite, ry_bm, ry_mb, Nat.add_assoc, Nat.reduceAdd, Option.some_bind, Option.bind_some, hk111]
set_option maxHeartbeats 400000 in
set_option maxRecDepth 100000 in
theorem e_X8_readWord_111 {Γ : rhG} {R : Nat → Nat → Nat} (hS : ShS Γ R) (hb_4_1 : R 4 1 = 2) : ∀ (n : Nat) (s : ryS) (v1 : Int32), f_X8_readWord_111 Γ n (ryM s R) 4 v1 = Option.map (fun s => ryM s R) (g_X8_readWord_111 n s v1) := by
  intro n
  induction n with
  | zero => intros; simp only [f_X8_readWord_111, g_X8_readWord_111, Option.map_none]
  | succ n ih =>
    intros
    simp only [f_X8_readWord_111, g_X8_readWord_111, rhck, ryM_1, ryM_2, ryM_3, ry_si, ry_sl, if_true, ry_ck, Option.map_some, Option.map_none, ry_ite, ry_bm, ry_mb, Nat.add_assoc, Nat.reduceAdd, Option.some_bind, Option.bind_some, ssk_4 hS, ssk_5 hS, ssl_5 hS, ssr_4_0 hS, e_X8_readWord_141 hS hb_4_1 ih, ih]
set_option maxHeartbeats 400000 in
set_option maxRecDepth 100000 in
theorem e_X8_readWord_84 {Γ : rhG} {R : Nat → Nat → Nat} (hS : ShS Γ R) (hb_4_1 : R 4 1 = 2) : ∀ (s : ryS), f_X8_readWord_84 Γ (ryM s R) 4 = Option.map (fun s => ryM s R) (g_X8_readWord_84 s) := by
  intros
  simp only [f_X8_readWord_84, g_X8_readWord_84, rhck, ryM_1, ryM_2, ryM_3, ry_si, ry_sl, if_true, ry_ck, Option.map_some, Option.map_none, ry_ite, ry_bm, ry_mb, Nat.add_assoc, Nat.reduceAdd, Option.some_bind, Option.bind_some, ssk_4 hS, e_X8_readWord_111 hS hb_4_1]
set_option maxHeartbeats 400000 in
set_option maxRecDepth 100000 in
theorem e_X8_readWord {Γ : rhG} {R : Nat → Nat → Nat} (hS : ShS Γ R) (hb_4_1 : R 4 1 = 2) : ∀ (s : ryS), f_X8_readWord Γ (ryM s R) 4 = Option.map (fun s => ryM s R) (g_X8_readWord s) := by
  intros
  simp only [f_X8_readWord, g_X8_readWord, rhck, ryM_1, ryM_2, ryM_3, ry_si, ry_sl, if_true, ry_ck, Option.map_some, Option.map_none, ry_ite, ry_bm, ry_mb, Nat.add_assoc, Nat.reduceAdd, Option.some_bind, Option.bind_some, ssk_4 hS, e_X8_readWord_5 hS hb_4_1 (e_X8_readWord_84 hS hb_4_1), e_X8_readWord_84 hS hb_4_1]
def g_X8_advance_49 (k10 : ryS → Option (ryS)) (s : ryS) : Option (ryS) :=
    let s3 := rysi s 4 3 ((s.1 4 3) + 1)
    k10 s3
def g_X8_advance_10 (k62 : ryS → Option (ryS)) : Nat → ryS → Option (ryS)
  | 0, _ => none
  | n + 1, s =>
    if (s.1 4 3) < (s.1 4 2) then
      (rhck (0 ≤ (s.1 4 3).toInt ∧ (s.1 4 3).toInt < (1600 : Nat)) <|
      if (s.1 2 (s.1 4 3).toNatClampNeg) = 32 then
        (g_X8_advance_49 (g_X8_advance_10 k62 n) s)
      else
        if (s.1 2 (s.1 4 3).toNatClampNeg) = 10 then
          (g_X8_advance_49 (g_X8_advance_10 k62 n) s)
        else
          k62 s)
    else
      k62 s
def g_X8_advance_62 (s : ryS) : Option (ryS) :=
    let s4 := rysi s 4 5 (s.1 4 3)
    if (s4.1 4 3) < (s4.1 4 2) then
      (rhck (0 ≤ (s4.1 4 3).toInt ∧ (s4.1 4 3).toInt < (1600 : Nat)) <|
      (g_X8_isLetter s4 (s4.1 2 (s4.1 4 3).toNatClampNeg)).bind fun r5 =>
      if r5 = 0 then
        ((g_X8_isDigit s4 (s4.1 2 (s4.1 4 3).toNatClampNeg)).bind fun r6 =>
        if r6 = 0 then
          ((g_X8_readSign s4).bind fun r7 =>
          some r7)
        else
          (g_X8_readNumber s4).bind fun r8 =>
          some r8)
      else
        (g_X8_readWord s4).bind fun r9 =>
        some r9)
    else
      let s10 := rysi s4 4 4 0
      some s10
def g_X8_advance (s : ryS) : Option (ryS) :=
    let s1 := rysi s 4 7 ((-1))
    let s2 := rysi s1 4 9 ((-1))
    g_X8_advance_10 (g_X8_advance_62) rhFU s2
set_option maxHeartbeats 400000 in
set_option maxRecDepth 100000 in
theorem e_X8_advance_49 {Γ : rhG} {R : Nat → Nat → Nat} (hS : ShS Γ R) (hb_4_1 : R 4 1 = 2) {f10 : rhM → Nat → Option (rhM)} {k10 : ryS → Option (ryS)} (hk10 : ∀ (s : ryS), f10 (ryM s R) 4 = Option.map (fun s => ryM s R) (k10 s)) : ∀ (s : ryS), f_X8_advance_49 f10 Γ (ryM s R) 4 = Option.map (fun s => ryM s R) (g_X8_advance_49 k10 s) := by
  intros
  simp only [f_X8_advance_49, g_X8_advance_49, rhck, ryM_1, ryM_2, ryM_3, ry_si, ry_sl, if_true, ry_ck, Option.map_some, Option.map_none, ry_ite, ry_bm, ry_mb, Nat.add_assoc, Nat.reduceAdd, Option.some_bind, Option.bind_some, ssk_4 hS, hk10]
set_option maxHeartbeats 400000 in
set_option maxRecDepth 100000 in
theorem e_X8_advance_10 {Γ : rhG} {R : Nat → Nat → Nat} (hS : ShS Γ R) (hb_4_1 : R 4 1 = 2) {f62 : rhM → Nat → Option (rhM)} {k62 : ryS → Option (ryS)} (hk62 : ∀ (s : ryS), f62 (ryM s R) 4 = Option.map (fun s => ryM s R) (k62 s)) : ∀ (n : Nat) (s : ryS), f_X8_advance_10 f62 Γ n (ryM s R) 4 = Option.map (fun s => ryM s R) (g_X8_advance_10 k62 n s) := by
  intro n
  induction n with
  | zero => intros; simp only [f_X8_advance_10, g_X8_advance_10, Option.map_none]
  | succ n ih =>
    intros
    simp only [f_X8_advance_10, g_X8_advance_10, rhck, ryM_1, ryM_2, ryM_3, ry_si, ry_sl, if_true, ry_ck, Option.map_some, Option.map_none, ry_ite, ry_bm, ry_mb, Nat.add_assoc, Nat.reduceAdd, Option.some_bind, Option.bind_some, hb_4_1, ssk_2 hS, ssk_4 hS, ssl_2 hS, hk62, e_X8_advance_49 hS hb_4_1 ih, ih]
set_option maxHeartbeats 400000 in
set_option maxRecDepth 100000 in
theorem e_X8_advance_62 {Γ : rhG} {R : Nat → Nat → Nat} (hS : ShS Γ R) (hb_4_1 : R 4 1 = 2) : ∀ (s : ryS), f_X8_advance_62 Γ (ryM s R) 4 = Option.map (fun s => ryM s R) (g_X8_advance_62 s) := by
  intros
  simp only [f_X8_advance_62, g_X8_advance_62, rhck, ryM_1, ryM_2, ryM_3, ry_si, ry_sl, if_true, ry_ck, Option.map_some, Option.map_none, ry_ite, ry_bm, ry_mb, Nat.add_assoc, Nat.reduceAdd, Option.some_bind, Option.bind_some, hb_4_1, ssk_2 hS, ssk_4 hS, ssl_2 hS, e_X8_isLetter, e_X8_isDigit, e_X8_readSign hS hb_4_1, e_X8_readNumber hS hb_4_1, e_X8_readWord hS hb_4_1]
set_option maxHeartbeats 400000 in
set_option maxRecDepth 100000 in
theorem e_X8_advance {Γ : rhG} {R : Nat → Nat → Nat} (hS : ShS Γ R) (hb_4_1 : R 4 1 = 2) : ∀ (s : ryS), f_X8_advance Γ (ryM s R) 4 = Option.map (fun s => ryM s R) (g_X8_advance s) := by
  intros
  simp only [f_X8_advance, g_X8_advance, rhck, ryM_1, ryM_2, ryM_3, ry_si, ry_sl, if_true, ry_ck, Option.map_some, Option.map_none, ry_ite, ry_bm, ry_mb, Nat.add_assoc, Nat.reduceAdd, Option.some_bind, Option.bind_some, ssk_4 hS, e_X8_advance_10 hS hb_4_1 (e_X8_advance_62 hS hb_4_1), e_X8_advance_62 hS hb_4_1]
def g_X4_advanceUnless (s : ryS) (v1 : Int32) : Option (ryS) :=
    if v1 = 0 then
      ((g_X8_advance s).bind fun r1 =>
      some r1)
    else
      (g_X4_refuse s).bind fun r2 =>
      some r2
set_option maxHeartbeats 400000 in
set_option maxRecDepth 100000 in
theorem e_X4_advanceUnless {Γ : rhG} {R : Nat → Nat → Nat} (hS : ShS Γ R) (hb_4_1 : R 4 1 = 2) : ∀ (s : ryS) (v1 : Int32), f_X4_advanceUnless Γ (ryM s R) 3 v1 = Option.map (fun s => ryM s R) (g_X4_advanceUnless s v1) := by
  intros
  simp only [f_X4_advanceUnless, g_X4_advanceUnless, rhck, ryM_1, ryM_2, ryM_3, ry_si, ry_sl, if_true, ry_ck, Option.map_some, Option.map_none, ry_ite, ry_bm, ry_mb, Nat.add_assoc, Nat.reduceAdd, Option.some_bind, Option.bind_some, ssk_3 hS, ssk_4 hS, ssr_3_2 hS, e_X8_advance hS hb_4_1, e_X4_refuse hS]
def g_X9_clear_50 (k79 : ryS → Nat → Option (ryS)) : Nat → ryS → Nat → Int32 → Option (ryS)
  | 0, _, _, _ => none
  | n + 1, s, v0, v1 =>
    if v1 < (Int32.ofNat (64 : Nat)) then
      (rhck (0 ≤ (v1).toInt ∧ (v1).toInt < (64 : Nat)) <|
      let s9 := rysi s ((v0 + 4)) (v1 : Int32).toNatClampNeg 0
      rhck (0 ≤ (v1).toInt ∧ (v1).toInt < (64 : Nat)) <|
      let s10 := rysi s9 ((v0 + 5)) (v1 : Int32).toNatClampNeg ((vp_nar .boolean 0))
      let x11 : Int32 := v1 + 1
      g_X9_clear_50 k79 n s10 v0 x11)
    else
      k79 s v0
def g_X9_clear_79 (s : ryS) (v0 : Nat) : Option (ryS) :=
    (g_X1_clear s ((v0 + 6))).bind fun r12 =>
    some r12
def g_X9_clear (s : ryS) (v0 : Nat) : Option (ryS) :=
    let s1 := rysi s v0 0 0
    let s2 := rysi s1 v0 1 0
    let s3 := rysi s2 v0 2 999
    let s4 := rysi s3 v0 3 999
    let s5 := rysi s4 v0 4 0
    let s6 := rysl s5 v0 5 ((0 : Int64))
    rhck (0 ≤ (0 : Int32).toInt ∧ (0 : Int32).toInt < (256 : Nat)) <|
    let s7 := rysi s6 ((v0 + 2)) (0 : Int32).toNatClampNeg 0
    rhck (0 ≤ (0 : Int32).toInt ∧ (0 : Int32).toInt < (256 : Nat)) <|
    let s8 := rysi s7 ((v0 + 3)) (0 : Int32).toNatClampNeg 0
    g_X9_clear_50 (g_X9_clear_79) rhFU s8 v0 0
set_option maxHeartbeats 400000 in
set_option maxRecDepth 100000 in
theorem e_X9_clear_50 {Γ : rhG} {R : Nat → Nat → Nat} {v0 : Nat} (hO_9_v0 : Sh9 Γ R v0) {f79 : rhM → Nat → Option (rhM)} {k79 : ryS → Nat → Option (ryS)} (hk79 : ∀ (s : ryS) (v0 : Nat), f79 (ryM s R) v0 = Option.map (fun s => ryM s R) (k79 s v0)) : ∀ (n : Nat) (s : ryS) (v1 : Int32), f_X9_clear_50 f79 Γ n (ryM s R) v0 v1 = Option.map (fun s => ryM s R) (g_X9_clear_50 k79 n s v0 v1) := by
  have z9v0 := hO_9_v0
  obtain ⟨q9v0_0, q9v0_1, q9v0_2, q9v0_3, q9v0_4, q9v0_5, q9v0_6, q9v0_7, q9v0_8, q9v0_9, q9v0_10, q9v0_11, q9v0_12, q9v0_13, q9v0_14, q9v0_15, q9v0_16, hO_1_v0⟩ := z9v0
  obtain ⟨q1v0_0, q1v0_1, q1v0_2, q1v0_3, q1v0_4, q1v0_5, q1v0_6, q1v0_7, q1v0_8, q1v0_9, q1v0_10, q1v0_11, q1v0_12⟩ := hO_1_v0
  intro n
  induction n with
  | zero => intros; simp only [f_X9_clear_50, g_X9_clear_50, Option.map_none]
  | succ n ih =>
    intros
    simp only [f_X9_clear_50, g_X9_clear_50, rhck, ryM_1, ryM_2, ryM_3, ry_si, ry_sl, if_true, ry_ck, Option.map_some, Option.map_none, ry_ite, ry_bm, ry_mb, Nat.add_assoc, Nat.reduceAdd, Option.some_bind, Option.bind_some, q9v0_0, q9v0_1, q9v0_2, q9v0_3, q9v0_4, q9v0_5, q9v0_6, q9v0_7, q9v0_8, q9v0_9, q9v0_10, q9v0_11, q9v0_12, q9v0_13, q9v0_14, q9v0_15, q9v0_16, q1v0_0, q1v0_1, q1v0_2, q1v0_3, q1v0_4, q1v0_5, q1v0_6, q1v0_7, q1v0_8, q1v0_9, q1v0_10, q1v0_11, q1v0_12, hk79, ih]
set_option maxHeartbeats 400000 in
set_option maxRecDepth 100000 in
theorem e_X9_clear_79 {Γ : rhG} {R : Nat → Nat → Nat} {v0 : Nat} (hO_9_v0 : Sh9 Γ R v0) : ∀ (s : ryS), f_X9_clear_79 Γ (ryM s R) v0 = Option.map (fun s => ryM s R) (g_X9_clear_79 s v0) := by
  have z9v0 := hO_9_v0
  obtain ⟨q9v0_0, q9v0_1, q9v0_2, q9v0_3, q9v0_4, q9v0_5, q9v0_6, q9v0_7, q9v0_8, q9v0_9, q9v0_10, q9v0_11, q9v0_12, q9v0_13, q9v0_14, q9v0_15, q9v0_16, hO_1_v0⟩ := z9v0
  obtain ⟨q1v0_0, q1v0_1, q1v0_2, q1v0_3, q1v0_4, q1v0_5, q1v0_6, q1v0_7, q1v0_8, q1v0_9, q1v0_10, q1v0_11, q1v0_12⟩ := hO_1_v0
  intros
  simp only [f_X9_clear_79, g_X9_clear_79, rhck, ryM_1, ryM_2, ryM_3, ry_si, ry_sl, if_true, ry_ck, Option.map_some, Option.map_none, ry_ite, ry_bm, ry_mb, Nat.add_assoc, Nat.reduceAdd, Option.some_bind, Option.bind_some, q9v0_0, q9v0_1, q9v0_2, q9v0_3, q9v0_4, q9v0_5, q9v0_6, q9v0_7, q9v0_8, q9v0_9, q9v0_10, q9v0_11, q9v0_12, q9v0_13, q9v0_14, q9v0_15, q9v0_16, q1v0_0, q1v0_1, q1v0_2, q1v0_3, q1v0_4, q1v0_5, q1v0_6, q1v0_7, q1v0_8, q1v0_9, q1v0_10, q1v0_11, q1v0_12, e_X1_clear (sh9_1 hO_9_v0)]
set_option maxHeartbeats 400000 in
set_option maxRecDepth 100000 in
theorem e_X9_clear {Γ : rhG} {R : Nat → Nat → Nat} {v0 : Nat} (hO_9_v0 : Sh9 Γ R v0) : ∀ (s : ryS), f_X9_clear Γ (ryM s R) v0 = Option.map (fun s => ryM s R) (g_X9_clear s v0) := by
  have z9v0 := hO_9_v0
  obtain ⟨q9v0_0, q9v0_1, q9v0_2, q9v0_3, q9v0_4, q9v0_5, q9v0_6, q9v0_7, q9v0_8, q9v0_9, q9v0_10, q9v0_11, q9v0_12, q9v0_13, q9v0_14, q9v0_15, q9v0_16, hO_1_v0⟩ := z9v0
  obtain ⟨q1v0_0, q1v0_1, q1v0_2, q1v0_3, q1v0_4, q1v0_5, q1v0_6, q1v0_7, q1v0_8, q1v0_9, q1v0_10, q1v0_11, q1v0_12⟩ := hO_1_v0
  intros
  simp only [f_X9_clear, g_X9_clear, rhck, ryM_1, ryM_2, ryM_3, ry_si, ry_sl, if_true, ry_ck, Option.map_some, Option.map_none, ry_ite, ry_bm, ry_mb, Nat.add_assoc, Nat.reduceAdd, Option.some_bind, Option.bind_some, q9v0_0, q9v0_1, q9v0_2, q9v0_3, q9v0_4, q9v0_5, q9v0_6, q9v0_7, q9v0_8, q9v0_9, q9v0_10, q9v0_11, q9v0_12, q9v0_13, q9v0_14, q9v0_15, q9v0_16, q1v0_0, q1v0_1, q1v0_2, q1v0_3, q1v0_4, q1v0_5, q1v0_6, q1v0_7, q1v0_8, q1v0_9, q1v0_10, q1v0_11, q1v0_12, e_X9_clear_50 hO_9_v0 (e_X9_clear_79 hO_9_v0), e_X9_clear_79 hO_9_v0]
def g_X4_firstWord_77 (t : Nat) (k40 : Int64 → Int32 → Int32 → Int32 → Option (Int64)) (s : ryS) (v1 : Int64) (v3 : Int32) (v4 : Int32) (v5 : Int32) : Option (Int64) :=
    let x6 : Int32 := v5 + 1
    k40 v1 v3 v4 x6
def g_X4_firstWord_40 (t : Nat) (k83 : Int64 → Int32 → Int32 → Option (Int64)) (s : ryS) : Nat → Int64 → Int32 → Int32 → Int32 → Option (Int64)
  | 0, _, _, _, _ => none
  | n + 1, v1, v3, v4, v5 =>
    if v5 < (s.1 t 1) then
      (rhck (0 ≤ (v5).toInt ∧ (v5).toInt < (8 : Nat)) <|
      if (s.1 9 v5.toNatClampNeg) = v4 then
        (let x4 := v1 ||| (rhsh (Int32.toInt64 v5) (4 * v3))
        let x5 : Int32 := v3 + 1
        g_X4_firstWord_77 t (g_X4_firstWord_40 t k83 s n) s x4 x5 v4 v5)
      else
        g_X4_firstWord_77 t (g_X4_firstWord_40 t k83 s n) s v1 v3 v4 v5)
    else
      k83 v1 v3 v4
def g_X4_firstWord_83 (t : Nat) (k7 : Int64 → Int32 → Int32 → Option (Int64)) (s : ryS) (v1 : Int64) (v3 : Int32) (v4 : Int32) : Option (Int64) :=
    let x7 : Int32 := v4 + 1
    k7 v1 v3 x7
def g_X4_firstWord_37 (t : Nat) (k7 : Int64 → Int32 → Int32 → Option (Int64)) (s : ryS) (v1 : Int64) (v3 : Int32) (v4 : Int32) : Option (Int64) :=
    g_X4_firstWord_40 t (g_X4_firstWord_83 t k7 s) s rhFU v1 v3 v4 0
def g_X4_firstWord_7 (t : Nat) (s : ryS) : Nat → Int64 → Int32 → Int32 → Option (Int64)
  | 0, _, _, _ => none
  | n + 1, v1, v3, v4 =>
    if v4 < (s.1 t 0) then
      (if 0 < v4 then
        (let x2 := v1 ||| (rhsh ((8 : Int64)) (4 * v3))
        let x3 : Int32 := v3 + 1
        g_X4_firstWord_37 t (g_X4_firstWord_7 t s n) s x2 x3 v4)
      else
        g_X4_firstWord_37 t (g_X4_firstWord_7 t s n) s v1 v3 v4)
    else
      some v1
def g_X4_firstWord (t : Nat) (s : ryS) : Option (Int64) :=
    let x1 := (0 : Int64)
    g_X4_firstWord_7 t s rhFU x1 0 0
set_option maxHeartbeats 400000 in
set_option maxRecDepth 100000 in
theorem e_X4_firstWord_77 {Γ : rhG} {R : Nat → Nat → Nat} {t : Nat} (hO_9_t : Sh9 Γ R t) (hS : ShS Γ R) (hb_3_10 : R 3 10 = t) {f40 : Nat → Int64 → Int32 → Int32 → Int32 → Option (Int64)} {k40 : Int64 → Int32 → Int32 → Int32 → Option (Int64)} (hk40 : ∀ (v1 : Int64) (v3 : Int32) (v4 : Int32) (v5 : Int32), f40 3 v1 v3 v4 v5 = k40 v1 v3 v4 v5) {s : ryS} : ∀ (v1 : Int64) (v3 : Int32) (v4 : Int32) (v5 : Int32), f_X4_firstWord_77 f40 Γ (ryM s R) 3 v1 v3 v4 v5 = g_X4_firstWord_77 t k40 s v1 v3 v4 v5 := by
  have z9t := hO_9_t
  obtain ⟨q9t_0, q9t_1, q9t_2, q9t_3, q9t_4, q9t_5, q9t_6, q9t_7, q9t_8, q9t_9, q9t_10, q9t_11, q9t_12, q9t_13, q9t_14, q9t_15, q9t_16, hO_1_t⟩ := z9t
  obtain ⟨q1t_0, q1t_1, q1t_2, q1t_3, q1t_4, q1t_5, q1t_6, q1t_7, q1t_8, q1t_9, q1t_10, q1t_11, q1t_12⟩ := hO_1_t
  intros
  simp only [f_X4_firstWord_77, g_X4_firstWord_77, rhck, ryM_1, ryM_2, ryM_3, ry_si, ry_sl, if_true, ry_ck, Option.map_some, Option.map_none, ry_ite, ry_bm, ry_mb, Nat.add_assoc, Nat.reduceAdd, Option.some_bind, Option.bind_some, q9t_0, q9t_1, q9t_2, q9t_3, q9t_4, q9t_5, q9t_6, q9t_7, q9t_8, q9t_9, q9t_10, q9t_11, q9t_12, q9t_13, q9t_14, q9t_15, q9t_16, q1t_0, q1t_1, q1t_2, q1t_3, q1t_4, q1t_5, q1t_6, q1t_7, q1t_8, q1t_9, q1t_10, q1t_11, q1t_12, hk40]
set_option maxHeartbeats 400000 in
set_option maxRecDepth 100000 in
theorem e_X4_firstWord_40 {Γ : rhG} {R : Nat → Nat → Nat} {t : Nat} (hO_9_t : Sh9 Γ R t) (hS : ShS Γ R) (hb_3_10 : R 3 10 = t) {f83 : Nat → Int64 → Int32 → Int32 → Option (Int64)} {k83 : Int64 → Int32 → Int32 → Option (Int64)} (hk83 : ∀ (v1 : Int64) (v3 : Int32) (v4 : Int32), f83 3 v1 v3 v4 = k83 v1 v3 v4) {s : ryS} : ∀ (n : Nat) (v1 : Int64) (v3 : Int32) (v4 : Int32) (v5 : Int32), f_X4_firstWord_40 f83 Γ (ryM s R) n 3 v1 v3 v4 v5 = g_X4_firstWord_40 t k83 s n v1 v3 v4 v5 := by
  have z9t := hO_9_t
  obtain ⟨q9t_0, q9t_1, q9t_2, q9t_3, q9t_4, q9t_5, q9t_6, q9t_7, q9t_8, q9t_9, q9t_10, q9t_11, q9t_12, q9t_13, q9t_14, q9t_15, q9t_16, hO_1_t⟩ := z9t
  obtain ⟨q1t_0, q1t_1, q1t_2, q1t_3, q1t_4, q1t_5, q1t_6, q1t_7, q1t_8, q1t_9, q1t_10, q1t_11, q1t_12⟩ := hO_1_t
  intro n
  induction n with
  | zero => intros; simp only [f_X4_firstWord_40, g_X4_firstWord_40, Option.map_none]
  | succ n ih =>
    intros
    simp only [f_X4_firstWord_40, g_X4_firstWord_40, rhck, ryM_1, ryM_2, ryM_3, ry_si, ry_sl, if_true, ry_ck, Option.map_some, Option.map_none, ry_ite, ry_bm, ry_mb, Nat.add_assoc, Nat.reduceAdd, Option.some_bind, Option.bind_some, hb_3_10, ssk_3 hS, ssk_9 hS, ssl_9 hS, ssr_3_5 hS, q9t_0, q9t_1, q9t_2, q9t_3, q9t_4, q9t_5, q9t_6, q9t_7, q9t_8, q9t_9, q9t_10, q9t_11, q9t_12, q9t_13, q9t_14, q9t_15, q9t_16, q1t_0, q1t_1, q1t_2, q1t_3, q1t_4, q1t_5, q1t_6, q1t_7, q1t_8, q1t_9, q1t_10, q1t_11, q1t_12, hk83, e_X4_firstWord_77 hO_9_t hS hb_3_10 ih, ih]
set_option maxHeartbeats 400000 in
set_option maxRecDepth 100000 in
theorem e_X4_firstWord_83 {Γ : rhG} {R : Nat → Nat → Nat} {t : Nat} (hO_9_t : Sh9 Γ R t) (hS : ShS Γ R) (hb_3_10 : R 3 10 = t) {f7 : Nat → Int64 → Int32 → Int32 → Option (Int64)} {k7 : Int64 → Int32 → Int32 → Option (Int64)} (hk7 : ∀ (v1 : Int64) (v3 : Int32) (v4 : Int32), f7 3 v1 v3 v4 = k7 v1 v3 v4) {s : ryS} : ∀ (v1 : Int64) (v3 : Int32) (v4 : Int32), f_X4_firstWord_83 f7 Γ (ryM s R) 3 v1 v3 v4 = g_X4_firstWord_83 t k7 s v1 v3 v4 := by
  have z9t := hO_9_t
  obtain ⟨q9t_0, q9t_1, q9t_2, q9t_3, q9t_4, q9t_5, q9t_6, q9t_7, q9t_8, q9t_9, q9t_10, q9t_11, q9t_12, q9t_13, q9t_14, q9t_15, q9t_16, hO_1_t⟩ := z9t
  obtain ⟨q1t_0, q1t_1, q1t_2, q1t_3, q1t_4, q1t_5, q1t_6, q1t_7, q1t_8, q1t_9, q1t_10, q1t_11, q1t_12⟩ := hO_1_t
  intros
  simp only [f_X4_firstWord_83, g_X4_firstWord_83, rhck, ryM_1, ryM_2, ryM_3, ry_si, ry_sl, if_true, ry_ck, Option.map_some, Option.map_none, ry_ite, ry_bm, ry_mb, Nat.add_assoc, Nat.reduceAdd, Option.some_bind, Option.bind_some, q9t_0, q9t_1, q9t_2, q9t_3, q9t_4, q9t_5, q9t_6, q9t_7, q9t_8, q9t_9, q9t_10, q9t_11, q9t_12, q9t_13, q9t_14, q9t_15, q9t_16, q1t_0, q1t_1, q1t_2, q1t_3, q1t_4, q1t_5, q1t_6, q1t_7, q1t_8, q1t_9, q1t_10, q1t_11, q1t_12, hk7]
set_option maxHeartbeats 400000 in
set_option maxRecDepth 100000 in
theorem e_X4_firstWord_37 {Γ : rhG} {R : Nat → Nat → Nat} {t : Nat} (hO_9_t : Sh9 Γ R t) (hS : ShS Γ R) (hb_3_10 : R 3 10 = t) {f7 : Nat → Int64 → Int32 → Int32 → Option (Int64)} {k7 : Int64 → Int32 → Int32 → Option (Int64)} (hk7 : ∀ (v1 : Int64) (v3 : Int32) (v4 : Int32), f7 3 v1 v3 v4 = k7 v1 v3 v4) {s : ryS} : ∀ (v1 : Int64) (v3 : Int32) (v4 : Int32), f_X4_firstWord_37 f7 Γ (ryM s R) 3 v1 v3 v4 = g_X4_firstWord_37 t k7 s v1 v3 v4 := by
  have z9t := hO_9_t
  obtain ⟨q9t_0, q9t_1, q9t_2, q9t_3, q9t_4, q9t_5, q9t_6, q9t_7, q9t_8, q9t_9, q9t_10, q9t_11, q9t_12, q9t_13, q9t_14, q9t_15, q9t_16, hO_1_t⟩ := z9t
  obtain ⟨q1t_0, q1t_1, q1t_2, q1t_3, q1t_4, q1t_5, q1t_6, q1t_7, q1t_8, q1t_9, q1t_10, q1t_11, q1t_12⟩ := hO_1_t
  intros
  simp only [f_X4_firstWord_37, g_X4_firstWord_37, rhck, ryM_1, ryM_2, ryM_3, ry_si, ry_sl, if_true, ry_ck, Option.map_some, Option.map_none, ry_ite, ry_bm, ry_mb, Nat.add_assoc, Nat.reduceAdd, Option.some_bind, Option.bind_some, q9t_0, q9t_1, q9t_2, q9t_3, q9t_4, q9t_5, q9t_6, q9t_7, q9t_8, q9t_9, q9t_10, q9t_11, q9t_12, q9t_13, q9t_14, q9t_15, q9t_16, q1t_0, q1t_1, q1t_2, q1t_3, q1t_4, q1t_5, q1t_6, q1t_7, q1t_8, q1t_9, q1t_10, q1t_11, q1t_12, hk7, e_X4_firstWord_40 hO_9_t hS hb_3_10 (e_X4_firstWord_83 hO_9_t hS hb_3_10 hk7), e_X4_firstWord_83 hO_9_t hS hb_3_10 hk7]
set_option maxHeartbeats 400000 in
set_option maxRecDepth 100000 in
theorem e_X4_firstWord_7 {Γ : rhG} {R : Nat → Nat → Nat} {t : Nat} (hO_9_t : Sh9 Γ R t) (hS : ShS Γ R) (hb_3_10 : R 3 10 = t) {s : ryS} : ∀ (n : Nat) (v1 : Int64) (v3 : Int32) (v4 : Int32), f_X4_firstWord_7 Γ (ryM s R) n 3 v1 v3 v4 = g_X4_firstWord_7 t s n v1 v3 v4 := by
  have z9t := hO_9_t
  obtain ⟨q9t_0, q9t_1, q9t_2, q9t_3, q9t_4, q9t_5, q9t_6, q9t_7, q9t_8, q9t_9, q9t_10, q9t_11, q9t_12, q9t_13, q9t_14, q9t_15, q9t_16, hO_1_t⟩ := z9t
  obtain ⟨q1t_0, q1t_1, q1t_2, q1t_3, q1t_4, q1t_5, q1t_6, q1t_7, q1t_8, q1t_9, q1t_10, q1t_11, q1t_12⟩ := hO_1_t
  intro n
  induction n with
  | zero => intros; simp only [f_X4_firstWord_7, g_X4_firstWord_7, Option.map_none]
  | succ n ih =>
    intros
    simp only [f_X4_firstWord_7, g_X4_firstWord_7, rhck, ryM_1, ryM_2, ryM_3, ry_si, ry_sl, if_true, ry_ck, Option.map_some, Option.map_none, ry_ite, ry_bm, ry_mb, Nat.add_assoc, Nat.reduceAdd, Option.some_bind, Option.bind_some, hb_3_10, ssk_3 hS, q9t_0, q9t_1, q9t_2, q9t_3, q9t_4, q9t_5, q9t_6, q9t_7, q9t_8, q9t_9, q9t_10, q9t_11, q9t_12, q9t_13, q9t_14, q9t_15, q9t_16, q1t_0, q1t_1, q1t_2, q1t_3, q1t_4, q1t_5, q1t_6, q1t_7, q1t_8, q1t_9, q1t_10, q1t_11, q1t_12, e_X4_firstWord_37 hO_9_t hS hb_3_10 ih, ih]
set_option maxHeartbeats 400000 in
set_option maxRecDepth 100000 in
theorem e_X4_firstWord {Γ : rhG} {R : Nat → Nat → Nat} {t : Nat} (hO_9_t : Sh9 Γ R t) (hS : ShS Γ R) (hb_3_10 : R 3 10 = t) {s : ryS} : f_X4_firstWord Γ (ryM s R) 3 = g_X4_firstWord t s := by
  have z9t := hO_9_t
  obtain ⟨q9t_0, q9t_1, q9t_2, q9t_3, q9t_4, q9t_5, q9t_6, q9t_7, q9t_8, q9t_9, q9t_10, q9t_11, q9t_12, q9t_13, q9t_14, q9t_15, q9t_16, hO_1_t⟩ := z9t
  obtain ⟨q1t_0, q1t_1, q1t_2, q1t_3, q1t_4, q1t_5, q1t_6, q1t_7, q1t_8, q1t_9, q1t_10, q1t_11, q1t_12⟩ := hO_1_t
  intros
  simp only [f_X4_firstWord, g_X4_firstWord, rhck, ryM_1, ryM_2, ryM_3, ry_si, ry_sl, if_true, ry_ck, Option.map_some, Option.map_none, ry_ite, ry_bm, ry_mb, Nat.add_assoc, Nat.reduceAdd, Option.some_bind, Option.bind_some, q9t_0, q9t_1, q9t_2, q9t_3, q9t_4, q9t_5, q9t_6, q9t_7, q9t_8, q9t_9, q9t_10, q9t_11, q9t_12, q9t_13, q9t_14, q9t_15, q9t_16, q1t_0, q1t_1, q1t_2, q1t_3, q1t_4, q1t_5, q1t_6, q1t_7, q1t_8, q1t_9, q1t_10, q1t_11, q1t_12, e_X4_firstWord_7 hO_9_t hS hb_3_10]
def g_X4_numberOf_3 (l2 : Nat) (s : ryS) : Nat → Int64 → Nat → Int32 → Int32 → Option (Int32)
  | 0, _, _, _, _ => none
  | n + 1, v0, v2, v3, v4 =>
    if v4 < v3 then
      (if v4 < (Int32.ofNat l2) then
        (rhck (0 ≤ (v4).toInt ∧ (v4).toInt < l2) <|
        if (s.2 v2 v4.toNatClampNeg) = v0 then
          (some v4)
        else
          let x1 : Int32 := v4 + 1
          g_X4_numberOf_3 l2 s n v0 v2 v3 x1)
      else
        some ((-1)))
    else
      some ((-1))
def g_X4_numberOf (l2 : Nat) (s : ryS) (v0 : Int64) (v2 : Nat) (v3 : Int32) : Option (Int32) :=
    g_X4_numberOf_3 l2 s rhFU v0 v2 v3 0
set_option maxHeartbeats 400000 in
set_option maxRecDepth 100000 in
theorem e_X4_numberOf_3 {Γ : rhG} {R : Nat → Nat → Nat} {l2 : Nat} {v2 : Nat} (ha_2 : Γ.2.2.1 v2 = 16 ∧ Γ.2.2.2 v2 = l2) {s : ryS} : ∀ (n : Nat) (v0 : Int64) (v3 : Int32) (v4 : Int32), f_X4_numberOf_3 Γ (ryM s R) n v0 v2 v3 v4 = g_X4_numberOf_3 l2 s n v0 v2 v3 v4 := by
  intro n
  induction n with
  | zero => intros; simp only [f_X4_numberOf_3, g_X4_numberOf_3, Option.map_none]
  | succ n ih =>
    intros
    simp only [f_X4_numberOf_3, g_X4_numberOf_3, rhck, ryM_1, ryM_2, ryM_3, ry_si, ry_sl, if_true, ry_ck, Option.map_some, Option.map_none, ry_ite, ry_bm, ry_mb, Nat.add_assoc, Nat.reduceAdd, Option.some_bind, Option.bind_some, ha_2.1, ha_2.2, ih]
set_option maxHeartbeats 400000 in
set_option maxRecDepth 100000 in
theorem e_X4_numberOf {Γ : rhG} {R : Nat → Nat → Nat} {l2 : Nat} {v2 : Nat} (ha_2 : Γ.2.2.1 v2 = 16 ∧ Γ.2.2.2 v2 = l2) {s : ryS} : ∀ (v0 : Int64) (v3 : Int32), f_X4_numberOf Γ (ryM s R) v0 v2 v3 = g_X4_numberOf l2 s v0 v2 v3 := by
  intros
  simp only [f_X4_numberOf, g_X4_numberOf, rhck, ryM_1, ryM_2, ryM_3, ry_si, ry_sl, if_true, ry_ck, Option.map_some, Option.map_none, ry_ite, ry_bm, ry_mb, Nat.add_assoc, Nat.reduceAdd, Option.some_bind, Option.bind_some, e_X4_numberOf_3 ha_2]
def g_X4_takeSign_28 (s : ryS) : Option (ryS) :=
    (g_X4_refuse s).bind fun r2 =>
    some r2
def g_X4_takeSign (s : ryS) (v1 : Int32) : Option (ryS) :=
    if (s.1 3 0) = 0 then
      (if (s.1 4 9) = v1 then
        ((g_X8_advance s).bind fun r1 =>
        some r1)
      else
        g_X4_takeSign_28 s)
    else
      g_X4_takeSign_28 s
set_option maxHeartbeats 400000 in
set_option maxRecDepth 100000 in
theorem e_X4_takeSign_28 {Γ : rhG} {R : Nat → Nat → Nat} (hS : ShS Γ R) (hb_4_1 : R 4 1 = 2) : ∀ (s : ryS), f_X4_takeSign_28 Γ (ryM s R) 3 = Option.map (fun s => ryM s R) (g_X4_takeSign_28 s) := by
  intros
  simp only [f_X4_takeSign_28, g_X4_takeSign_28, rhck, ryM_1, ryM_2, ryM_3, ry_si, ry_sl, if_true, ry_ck, Option.map_some, Option.map_none, ry_ite, ry_bm, ry_mb, Nat.add_assoc, Nat.reduceAdd, Option.some_bind, Option.bind_some, ssk_3 hS, e_X4_refuse hS]
set_option maxHeartbeats 400000 in
set_option maxRecDepth 100000 in
theorem e_X4_takeSign {Γ : rhG} {R : Nat → Nat → Nat} (hS : ShS Γ R) (hb_4_1 : R 4 1 = 2) : ∀ (s : ryS) (v1 : Int32), f_X4_takeSign Γ (ryM s R) 3 v1 = Option.map (fun s => ryM s R) (g_X4_takeSign s v1) := by
  intros
  simp only [f_X4_takeSign, g_X4_takeSign, rhck, ryM_1, ryM_2, ryM_3, ry_si, ry_sl, if_true, ry_ck, Option.map_some, Option.map_none, ry_ite, ry_bm, ry_mb, Nat.add_assoc, Nat.reduceAdd, Option.some_bind, Option.bind_some, ssk_3 hS, ssk_4 hS, ssr_3_2 hS, e_X8_advance hS hb_4_1, e_X4_takeSign_28 hS hb_4_1]
def g_X4_takeNumber_45 (k51 : ryS → Int32 → Option (Int32 × ryS)) (s : ryS) (v3 : Int32) (v4 : Int32) : Option (Int32 × ryS) :=
    (g_X4_blame s (4 : Int32) v3).bind fun r2 =>
    k51 r2 v4
def g_X4_takeNumber_51 (s : ryS) (v4 : Int32) : Option (Int32 × ryS) :=
    (g_X8_advance s).bind fun r3 =>
    some ((v4, r3))
def g_X4_takeNumber_18 (s : ryS) (v1 : Int32) : Option (Int32 × ryS) :=
    (g_X4_refuse s).bind fun r4 =>
    some ((v1, r4))
def g_X4_takeNumber (s : ryS) (v1 : Int32) (v2 : Int32) (v3 : Int32) : Option (Int32 × ryS) :=
    if (s.1 3 0) = 0 then
      (if (s.1 4 4) = 4 then
        (let x1 := s.1 4 8
        if x1 < v1 then
          (g_X4_takeNumber_45 (g_X4_takeNumber_51) s v3 x1)
        else
          if v2 < x1 then
            (g_X4_takeNumber_45 (g_X4_takeNumber_51) s v3 x1)
          else
            g_X4_takeNumber_51 s x1)
      else
        g_X4_takeNumber_18 s v1)
    else
      g_X4_takeNumber_18 s v1
set_option maxHeartbeats 400000 in
set_option maxRecDepth 100000 in
theorem e_X4_takeNumber_45 {Γ : rhG} {R : Nat → Nat → Nat} (hS : ShS Γ R) (hb_4_1 : R 4 1 = 2) {f51 : rhM → Nat → Int32 → Option (Int32 × rhM)} {k51 : ryS → Int32 → Option (Int32 × ryS)} (hk51 : ∀ (s : ryS) (v4 : Int32), f51 (ryM s R) 3 v4 = Option.map (fun q => (q.1, ryM q.2 R)) (k51 s v4)) : ∀ (s : ryS) (v3 : Int32) (v4 : Int32), f_X4_takeNumber_45 f51 Γ (ryM s R) 3 v3 v4 = Option.map (fun q => (q.1, ryM q.2 R)) (g_X4_takeNumber_45 k51 s v3 v4) := by
  intros
  simp only [f_X4_takeNumber_45, g_X4_takeNumber_45, rhck, ryM_1, ryM_2, ryM_3, ry_si, ry_sl, if_true, ry_ck, Option.map_some, Option.map_none, ry_ite, ry_bm, ry_mb, Nat.add_assoc, Nat.reduceAdd, Option.some_bind, Option.bind_some, ssk_3 hS, e_X4_blame hS, hk51]
set_option maxHeartbeats 400000 in
set_option maxRecDepth 100000 in
theorem e_X4_takeNumber_51 {Γ : rhG} {R : Nat → Nat → Nat} (hS : ShS Γ R) (hb_4_1 : R 4 1 = 2) : ∀ (s : ryS) (v4 : Int32), f_X4_takeNumber_51 Γ (ryM s R) 3 v4 = Option.map (fun q => (q.1, ryM q.2 R)) (g_X4_takeNumber_51 s v4) := by
  intros
  simp only [f_X4_takeNumber_51, g_X4_takeNumber_51, rhck, ryM_1, ryM_2, ryM_3, ry_si, ry_sl, if_true, ry_ck, Option.map_some, Option.map_none, ry_ite, ry_bm, ry_mb, Nat.add_assoc, Nat.reduceAdd, Option.some_bind, Option.bind_some, ssk_3 hS, ssk_4 hS, ssr_3_2 hS, e_X8_advance hS hb_4_1]
set_option maxHeartbeats 400000 in
set_option maxRecDepth 100000 in
theorem e_X4_takeNumber_18 {Γ : rhG} {R : Nat → Nat → Nat} (hS : ShS Γ R) (hb_4_1 : R 4 1 = 2) : ∀ (s : ryS) (v1 : Int32), f_X4_takeNumber_18 Γ (ryM s R) 3 v1 = Option.map (fun q => (q.1, ryM q.2 R)) (g_X4_takeNumber_18 s v1) := by
  intros
  simp only [f_X4_takeNumber_18, g_X4_takeNumber_18, rhck, ryM_1, ryM_2, ryM_3, ry_si, ry_sl, if_true, ry_ck, Option.map_some, Option.map_none, ry_ite, ry_bm, ry_mb, Nat.add_assoc, Nat.reduceAdd, Option.some_bind, Option.bind_some, ssk_3 hS, e_X4_refuse hS]
set_option maxHeartbeats 400000 in
set_option maxRecDepth 100000 in
theorem e_X4_takeNumber {Γ : rhG} {R : Nat → Nat → Nat} (hS : ShS Γ R) (hb_4_1 : R 4 1 = 2) : ∀ (s : ryS) (v1 : Int32) (v2 : Int32) (v3 : Int32), f_X4_takeNumber Γ (ryM s R) 3 v1 v2 v3 = Option.map (fun q => (q.1, ryM q.2 R)) (g_X4_takeNumber s v1 v2 v3) := by
  intros
  simp only [f_X4_takeNumber, g_X4_takeNumber, rhck, ryM_1, ryM_2, ryM_3, ry_si, ry_sl, if_true, ry_ck, Option.map_some, Option.map_none, ry_ite, ry_bm, ry_mb, Nat.add_assoc, Nat.reduceAdd, Option.some_bind, Option.bind_some, ssk_3 hS, ssk_4 hS, ssr_3_2 hS, e_X4_takeNumber_45 hS hb_4_1 (e_X4_takeNumber_51 hS hb_4_1), e_X4_takeNumber_51 hS hb_4_1, e_X4_takeNumber_18 hS hb_4_1]
def g_X4_takeSignedNumber_43 (s : ryS) (v1 : Int32) (v2 : Int32) : Option (Int32 × ryS) :=
    (g_X4_takeNumber s (0 : Int32) v1 v2).bind fun r4 =>
    some ((r4.1, r4.2))
def g_X4_takeSignedNumber (s : ryS) (v1 : Int32) : Option (Int32 × ryS) :=
    let x1 := s.1 4 5
    if (s.1 3 0) = 0 then
      (if (s.1 4 9) = 45 then
        ((g_X8_advance s).bind fun r2 =>
        (g_X4_takeNumber r2 (0 : Int32) v1 x1).bind fun r3 =>
        some ((-r3.1, r3.2)))
      else
        g_X4_takeSignedNumber_43 s v1 x1)
    else
      g_X4_takeSignedNumber_43 s v1 x1
set_option maxHeartbeats 400000 in
set_option maxRecDepth 100000 in
theorem e_X4_takeSignedNumber_43 {Γ : rhG} {R : Nat → Nat → Nat} (hS : ShS Γ R) (hb_4_1 : R 4 1 = 2) : ∀ (s : ryS) (v1 : Int32) (v2 : Int32), f_X4_takeSignedNumber_43 Γ (ryM s R) 3 v1 v2 = Option.map (fun q => (q.1, ryM q.2 R)) (g_X4_takeSignedNumber_43 s v1 v2) := by
  intros
  simp only [f_X4_takeSignedNumber_43, g_X4_takeSignedNumber_43, rhck, ryM_1, ryM_2, ryM_3, ry_si, ry_sl, if_true, ry_ck, Option.map_some, Option.map_none, ry_ite, ry_bm, ry_mb, Nat.add_assoc, Nat.reduceAdd, Option.some_bind, Option.bind_some, ssk_3 hS, e_X4_takeNumber hS hb_4_1]
set_option maxHeartbeats 400000 in
set_option maxRecDepth 100000 in
theorem e_X4_takeSignedNumber {Γ : rhG} {R : Nat → Nat → Nat} (hS : ShS Γ R) (hb_4_1 : R 4 1 = 2) : ∀ (s : ryS) (v1 : Int32), f_X4_takeSignedNumber Γ (ryM s R) 3 v1 = Option.map (fun q => (q.1, ryM q.2 R)) (g_X4_takeSignedNumber s v1) := by
  intros
  simp only [f_X4_takeSignedNumber, g_X4_takeSignedNumber, rhck, ryM_1, ryM_2, ryM_3, ry_si, ry_sl, if_true, ry_ck, Option.map_some, Option.map_none, ry_ite, ry_bm, ry_mb, Nat.add_assoc, Nat.reduceAdd, Option.some_bind, Option.bind_some, ssk_3 hS, ssk_4 hS, ssr_3_2 hS, e_X8_advance hS hb_4_1, e_X4_takeNumber hS hb_4_1, e_X4_takeSignedNumber_43 hS hb_4_1]
def g_X4_takeToldName_18 (l1 : Nat) (s : ryS) : Option (Int32 × ryS) :=
    (g_X4_refuse s).bind fun r4 =>
    some ((0, r4))
def g_X4_takeToldName (l1 : Nat) (s : ryS) (v1 : Nat) (v2 : Int32) : Option (Int32 × ryS) :=
    if (s.1 3 0) = 0 then
      (if (s.1 4 4) = 2 then
        ((g_X4_numberOf l1 s (s.2 4 6) v1 v2).bind fun r1 =>
        if r1 = ((-1)) then
          ((g_X4_blame s (5 : Int32) (s.1 4 5)).bind fun r2 =>
          some ((0, r2)))
        else
          (g_X8_advance s).bind fun r3 =>
          some ((r1, r3)))
      else
        g_X4_takeToldName_18 l1 s)
    else
      g_X4_takeToldName_18 l1 s
set_option maxHeartbeats 400000 in
set_option maxRecDepth 100000 in
theorem e_X4_takeToldName_18 {Γ : rhG} {R : Nat → Nat → Nat} {l1 : Nat} {v1 : Nat} (hS : ShS Γ R) (ha_1 : Γ.2.2.1 v1 = 16 ∧ Γ.2.2.2 v1 = l1) (hb_4_1 : R 4 1 = 2) : ∀ (s : ryS), f_X4_takeToldName_18 Γ (ryM s R) 3 = Option.map (fun q => (q.1, ryM q.2 R)) (g_X4_takeToldName_18 l1 s) := by
  intros
  simp only [f_X4_takeToldName_18, g_X4_takeToldName_18, rhck, ryM_1, ryM_2, ryM_3, ry_si, ry_sl, if_true, ry_ck, Option.map_some, Option.map_none, ry_ite, ry_bm, ry_mb, Nat.add_assoc, Nat.reduceAdd, Option.some_bind, Option.bind_some, ssk_3 hS, e_X4_refuse hS]
set_option maxHeartbeats 400000 in
set_option maxRecDepth 100000 in
theorem e_X4_takeToldName {Γ : rhG} {R : Nat → Nat → Nat} {l1 : Nat} {v1 : Nat} (hS : ShS Γ R) (ha_1 : Γ.2.2.1 v1 = 16 ∧ Γ.2.2.2 v1 = l1) (hb_4_1 : R 4 1 = 2) : ∀ (s : ryS) (v2 : Int32), f_X4_takeToldName Γ (ryM s R) 3 v1 v2 = Option.map (fun q => (q.1, ryM q.2 R)) (g_X4_takeToldName l1 s v1 v2) := by
  intros
  simp only [f_X4_takeToldName, g_X4_takeToldName, rhck, ryM_1, ryM_2, ryM_3, ry_si, ry_sl, if_true, ry_ck, Option.map_some, Option.map_none, ry_ite, ry_bm, ry_mb, Nat.add_assoc, Nat.reduceAdd, Option.some_bind, Option.bind_some, ssk_3 hS, ssk_4 hS, ssr_3_2 hS, e_X4_numberOf ha_1, e_X4_blame hS, e_X8_advance hS hb_4_1, e_X4_takeToldName_18 hS ha_1 hb_4_1]
def g_X4_takeWord_28 (s : ryS) : Option (ryS) :=
    (g_X4_refuse s).bind fun r2 =>
    some r2
def g_X4_takeWord (s : ryS) (v1 : Int32) : Option (ryS) :=
    if (s.1 3 0) = 0 then
      (if (s.1 4 7) = v1 then
        ((g_X8_advance s).bind fun r1 =>
        some r1)
      else
        g_X4_takeWord_28 s)
    else
      g_X4_takeWord_28 s
set_option maxHeartbeats 400000 in
set_option maxRecDepth 100000 in
theorem e_X4_takeWord_28 {Γ : rhG} {R : Nat → Nat → Nat} (hS : ShS Γ R) (hb_4_1 : R 4 1 = 2) : ∀ (s : ryS), f_X4_takeWord_28 Γ (ryM s R) 3 = Option.map (fun s => ryM s R) (g_X4_takeWord_28 s) := by
  intros
  simp only [f_X4_takeWord_28, g_X4_takeWord_28, rhck, ryM_1, ryM_2, ryM_3, ry_si, ry_sl, if_true, ry_ck, Option.map_some, Option.map_none, ry_ite, ry_bm, ry_mb, Nat.add_assoc, Nat.reduceAdd, Option.some_bind, Option.bind_some, ssk_3 hS, e_X4_refuse hS]
set_option maxHeartbeats 400000 in
set_option maxRecDepth 100000 in
theorem e_X4_takeWord {Γ : rhG} {R : Nat → Nat → Nat} (hS : ShS Γ R) (hb_4_1 : R 4 1 = 2) : ∀ (s : ryS) (v1 : Int32), f_X4_takeWord Γ (ryM s R) 3 v1 = Option.map (fun s => ryM s R) (g_X4_takeWord s v1) := by
  intros
  simp only [f_X4_takeWord, g_X4_takeWord, rhck, ryM_1, ryM_2, ryM_3, ry_si, ry_sl, if_true, ry_ck, Option.map_some, Option.map_none, ry_ite, ry_bm, ry_mb, Nat.add_assoc, Nat.reduceAdd, Option.some_bind, Option.bind_some, ssk_3 hS, ssk_4 hS, ssr_3_2 hS, e_X8_advance hS hb_4_1, e_X4_takeWord_28 hS hb_4_1]
def g_X9_addBeside (s : ryS) (v0 : Nat) (v1 : Int32) (v2 : Int32) (v3 : Int32) : Option (ryS) :=
    rhck (0 ≤ ((v1 * 8) + v2).toInt ∧ ((v1 * 8) + v2).toInt < (64 : Nat)) <|
    let s1 := rysi s ((v0 + 5)) ((v1 * 8) + v2 : Int32).toNatClampNeg ((vp_nar .boolean 1))
    rhck (0 ≤ ((v2 * 8) + v1).toInt ∧ ((v2 * 8) + v1).toInt < (64 : Nat)) <|
    let s2 := rysi s1 ((v0 + 5)) ((v2 * 8) + v1 : Int32).toNatClampNeg ((vp_nar .boolean 1))
    rhck (0 ≤ ((v1 * 8) + v2).toInt ∧ ((v1 * 8) + v2).toInt < (64 : Nat)) <|
    let s3 := rysi s2 ((v0 + 4)) ((v1 * 8) + v2 : Int32).toNatClampNeg v3
    rhck (0 ≤ ((v2 * 8) + v1).toInt ∧ ((v2 * 8) + v1).toInt < (64 : Nat)) <|
    let s4 := rysi s3 ((v0 + 4)) ((v2 * 8) + v1 : Int32).toNatClampNeg v3
    let s5 := rysi s4 v0 4 ((s4.1 v0 4) + 1)
    some s5
set_option maxHeartbeats 400000 in
set_option maxRecDepth 100000 in
theorem e_X9_addBeside {Γ : rhG} {R : Nat → Nat → Nat} {v0 : Nat} (hO_9_v0 : Sh9 Γ R v0) : ∀ (s : ryS) (v1 : Int32) (v2 : Int32) (v3 : Int32), f_X9_addBeside Γ (ryM s R) v0 v1 v2 v3 = Option.map (fun s => ryM s R) (g_X9_addBeside s v0 v1 v2 v3) := by
  have z9v0 := hO_9_v0
  obtain ⟨q9v0_0, q9v0_1, q9v0_2, q9v0_3, q9v0_4, q9v0_5, q9v0_6, q9v0_7, q9v0_8, q9v0_9, q9v0_10, q9v0_11, q9v0_12, q9v0_13, q9v0_14, q9v0_15, q9v0_16, hO_1_v0⟩ := z9v0
  obtain ⟨q1v0_0, q1v0_1, q1v0_2, q1v0_3, q1v0_4, q1v0_5, q1v0_6, q1v0_7, q1v0_8, q1v0_9, q1v0_10, q1v0_11, q1v0_12⟩ := hO_1_v0
  intros
  simp only [f_X9_addBeside, g_X9_addBeside, rhck, ryM_1, ryM_2, ryM_3, ry_si, ry_sl, if_true, ry_ck, Option.map_some, Option.map_none, ry_ite, ry_bm, ry_mb, Nat.add_assoc, Nat.reduceAdd, Option.some_bind, Option.bind_some, q9v0_0, q9v0_1, q9v0_2, q9v0_3, q9v0_4, q9v0_5, q9v0_6, q9v0_7, q9v0_8, q9v0_9, q9v0_10, q9v0_11, q9v0_12, q9v0_13, q9v0_14, q9v0_15, q9v0_16, q1v0_0, q1v0_1, q1v0_2, q1v0_3, q1v0_4, q1v0_5, q1v0_6, q1v0_7, q1v0_8, q1v0_9, q1v0_10, q1v0_11, q1v0_12]
def g_X9_isTold (s : ryS) (v0 : Nat) (v1 : Int32) (v2 : Int32) : Option (Int32) :=
    rhck (0 ≤ ((v1 * 8) + v2).toInt ∧ ((v1 * 8) + v2).toInt < (64 : Nat)) <|
    rhck (s.1 ((v0 + 5)) ((v1 * 8) + v2).toNatClampNeg = 0 ∨ s.1 ((v0 + 5)) ((v1 * 8) + v2).toNatClampNeg = 1) <|
    some (s.1 ((v0 + 5)) ((v1 * 8) + v2).toNatClampNeg)
set_option maxHeartbeats 400000 in
set_option maxRecDepth 100000 in
theorem e_X9_isTold {Γ : rhG} {R : Nat → Nat → Nat} {v0 : Nat} (hO_9_v0 : Sh9 Γ R v0) {s : ryS} : ∀ (v1 : Int32) (v2 : Int32), f_X9_isTold Γ (ryM s R) v0 v1 v2 = g_X9_isTold s v0 v1 v2 := by
  have z9v0 := hO_9_v0
  obtain ⟨q9v0_0, q9v0_1, q9v0_2, q9v0_3, q9v0_4, q9v0_5, q9v0_6, q9v0_7, q9v0_8, q9v0_9, q9v0_10, q9v0_11, q9v0_12, q9v0_13, q9v0_14, q9v0_15, q9v0_16, hO_1_v0⟩ := z9v0
  obtain ⟨q1v0_0, q1v0_1, q1v0_2, q1v0_3, q1v0_4, q1v0_5, q1v0_6, q1v0_7, q1v0_8, q1v0_9, q1v0_10, q1v0_11, q1v0_12⟩ := hO_1_v0
  intros
  simp only [f_X9_isTold, g_X9_isTold, rhck, ryM_1, ryM_2, ryM_3, ry_si, ry_sl, if_true, ry_ck, Option.map_some, Option.map_none, ry_ite, ry_bm, ry_mb, Nat.add_assoc, Nat.reduceAdd, Option.some_bind, Option.bind_some, q9v0_0, q9v0_1, q9v0_2, q9v0_3, q9v0_4, q9v0_5, q9v0_6, q9v0_7, q9v0_8, q9v0_9, q9v0_10, q9v0_11, q9v0_12, q9v0_13, q9v0_14, q9v0_15, q9v0_16, q1v0_0, q1v0_1, q1v0_2, q1v0_3, q1v0_4, q1v0_5, q1v0_6, q1v0_7, q1v0_8, q1v0_9, q1v0_10, q1v0_11, q1v0_12]
def g_X4_readBeside_78 (t : Nat) (k84 : ryS → Int32 → Int32 → Option (ryS)) (s : ryS) (v1 : Int32) (v2 : Int32) (v3 : Int32) : Option (ryS) :=
    (g_X4_blame s (3 : Int32) v2).bind fun r7 =>
    k84 r7 v1 v3
def g_X4_readBeside_84 (t : Nat) (s : ryS) (v1 : Int32) (v3 : Int32) : Option (ryS) :=
    (g_X4_takeWord s (9 : Int32)).bind fun r8 =>
    (g_X4_takeSignedNumber r8 (99 : Int32)).bind fun r9 =>
    let x10 := r9.1
    (g_X4_takeSign r9.2 (59 : Int32)).bind fun r11 =>
    if (r11.1 3 0) = 0 then
      ((g_X9_addBeside r11 t v1 v3 x10).bind fun r12 =>
      some r12)
    else
      some r11
def g_X4_readBeside_18 (t : Nat) (s : ryS) (w1 : Int32) : Option (ryS) :=
    (g_X4_advanceUnless s w1).bind fun r1 =>
    (g_X4_takeToldName (8 : Nat) r1 8 (r1.1 t 1)).bind fun r2 =>
    let x3 := r2.1
    let x4 := r2.2.1 4 5
    (g_X4_takeToldName (8 : Nat) r2.2 8 (r2.2.1 t 1)).bind fun r5 =>
    let x6 := r5.1
    if x3 = x6 then
      (g_X4_readBeside_78 t (g_X4_readBeside_84 t) r5.2 x3 x4 x6)
    else
      (g_X9_isTold r5.2 t x3 x6).bind fun r13 =>
      if r13 = 0 then
        (g_X4_readBeside_84 t r5.2 x3 x6)
      else
        g_X4_readBeside_78 t (g_X4_readBeside_84 t) r5.2 x3 x4 x6
def g_X4_readBeside (t : Nat) (s : ryS) : Option (ryS) :=
    if (s.1 t 4) < 20 then
      (g_X4_readBeside_18 t s 0)
    else
      g_X4_readBeside_18 t s 1
set_option maxHeartbeats 400000 in
set_option maxRecDepth 100000 in
theorem e_X4_readBeside_78 {Γ : rhG} {R : Nat → Nat → Nat} {t : Nat} (hO_9_t : Sh9 Γ R t) (hS : ShS Γ R) (hb_3_10 : R 3 10 = t) (hb_4_1 : R 4 1 = 2) {f84 : rhM → Nat → Int32 → Int32 → Option (rhM)} {k84 : ryS → Int32 → Int32 → Option (ryS)} (hk84 : ∀ (s : ryS) (v1 : Int32) (v3 : Int32), f84 (ryM s R) 3 v1 v3 = Option.map (fun s => ryM s R) (k84 s v1 v3)) : ∀ (s : ryS) (v1 : Int32) (v2 : Int32) (v3 : Int32), f_X4_readBeside_78 f84 Γ (ryM s R) 3 v1 v2 v3 = Option.map (fun s => ryM s R) (g_X4_readBeside_78 t k84 s v1 v2 v3) := by
  have z9t := hO_9_t
  obtain ⟨q9t_0, q9t_1, q9t_2, q9t_3, q9t_4, q9t_5, q9t_6, q9t_7, q9t_8, q9t_9, q9t_10, q9t_11, q9t_12, q9t_13, q9t_14, q9t_15, q9t_16, hO_1_t⟩ := z9t
  obtain ⟨q1t_0, q1t_1, q1t_2, q1t_3, q1t_4, q1t_5, q1t_6, q1t_7, q1t_8, q1t_9, q1t_10, q1t_11, q1t_12⟩ := hO_1_t
  intros
  simp only [f_X4_readBeside_78, g_X4_readBeside_78, rhck, ryM_1, ryM_2, ryM_3, ry_si, ry_sl, if_true, ry_ck, Option.map_some, Option.map_none, ry_ite, ry_bm, ry_mb, Nat.add_assoc, Nat.reduceAdd, Option.some_bind, Option.bind_some, ssk_3 hS, q9t_0, q9t_1, q9t_2, q9t_3, q9t_4, q9t_5, q9t_6, q9t_7, q9t_8, q9t_9, q9t_10, q9t_11, q9t_12, q9t_13, q9t_14, q9t_15, q9t_16, q1t_0, q1t_1, q1t_2, q1t_3, q1t_4, q1t_5, q1t_6, q1t_7, q1t_8, q1t_9, q1t_10, q1t_11, q1t_12, e_X4_blame hS, hk84]
set_option maxHeartbeats 400000 in
set_option maxRecDepth 100000 in
theorem e_X4_readBeside_84 {Γ : rhG} {R : Nat → Nat → Nat} {t : Nat} (hO_9_t : Sh9 Γ R t) (hS : ShS Γ R) (hb_3_10 : R 3 10 = t) (hb_4_1 : R 4 1 = 2) : ∀ (s : ryS) (v1 : Int32) (v3 : Int32), f_X4_readBeside_84 Γ (ryM s R) 3 v1 v3 = Option.map (fun s => ryM s R) (g_X4_readBeside_84 t s v1 v3) := by
  have z9t := hO_9_t
  obtain ⟨q9t_0, q9t_1, q9t_2, q9t_3, q9t_4, q9t_5, q9t_6, q9t_7, q9t_8, q9t_9, q9t_10, q9t_11, q9t_12, q9t_13, q9t_14, q9t_15, q9t_16, hO_1_t⟩ := z9t
  obtain ⟨q1t_0, q1t_1, q1t_2, q1t_3, q1t_4, q1t_5, q1t_6, q1t_7, q1t_8, q1t_9, q1t_10, q1t_11, q1t_12⟩ := hO_1_t
  intros
  simp only [f_X4_readBeside_84, g_X4_readBeside_84, rhck, ryM_1, ryM_2, ryM_3, ry_si, ry_sl, if_true, ry_ck, Option.map_some, Option.map_none, ry_ite, ry_bm, ry_mb, Nat.add_assoc, Nat.reduceAdd, Option.some_bind, Option.bind_some, hb_3_10, ssk_3 hS, q9t_0, q9t_1, q9t_2, q9t_3, q9t_4, q9t_5, q9t_6, q9t_7, q9t_8, q9t_9, q9t_10, q9t_11, q9t_12, q9t_13, q9t_14, q9t_15, q9t_16, q1t_0, q1t_1, q1t_2, q1t_3, q1t_4, q1t_5, q1t_6, q1t_7, q1t_8, q1t_9, q1t_10, q1t_11, q1t_12, e_X4_takeWord hS hb_4_1, e_X4_takeSignedNumber hS hb_4_1, e_X4_takeSign hS hb_4_1, e_X9_addBeside hO_9_t]
set_option maxHeartbeats 400000 in
set_option maxRecDepth 100000 in
theorem e_X4_readBeside_18 {Γ : rhG} {R : Nat → Nat → Nat} {t : Nat} (hO_9_t : Sh9 Γ R t) (hS : ShS Γ R) (hb_3_10 : R 3 10 = t) (hb_4_1 : R 4 1 = 2) : ∀ (s : ryS) (w1 : Int32), f_X4_readBeside_18 Γ (ryM s R) 3 3 w1 = Option.map (fun s => ryM s R) (g_X4_readBeside_18 t s w1) := by
  have z9t := hO_9_t
  obtain ⟨q9t_0, q9t_1, q9t_2, q9t_3, q9t_4, q9t_5, q9t_6, q9t_7, q9t_8, q9t_9, q9t_10, q9t_11, q9t_12, q9t_13, q9t_14, q9t_15, q9t_16, hO_1_t⟩ := z9t
  obtain ⟨q1t_0, q1t_1, q1t_2, q1t_3, q1t_4, q1t_5, q1t_6, q1t_7, q1t_8, q1t_9, q1t_10, q1t_11, q1t_12⟩ := hO_1_t
  intros
  simp only [f_X4_readBeside_18, g_X4_readBeside_18, rhck, ryM_1, ryM_2, ryM_3, ry_si, ry_sl, if_true, ry_ck, Option.map_some, Option.map_none, ry_ite, ry_bm, ry_mb, Nat.add_assoc, Nat.reduceAdd, Option.some_bind, Option.bind_some, hb_3_10, ssk_3 hS, ssk_4 hS, ssk_8 hS, ssl_8 hS, ssr_3_2 hS, ssr_3_4 hS, q9t_0, q9t_1, q9t_2, q9t_3, q9t_4, q9t_5, q9t_6, q9t_7, q9t_8, q9t_9, q9t_10, q9t_11, q9t_12, q9t_13, q9t_14, q9t_15, q9t_16, q1t_0, q1t_1, q1t_2, q1t_3, q1t_4, q1t_5, q1t_6, q1t_7, q1t_8, q1t_9, q1t_10, q1t_11, q1t_12, e_X4_advanceUnless hS hb_4_1, e_X4_takeToldName hS ⟨ssk_8 hS, ssl_8 hS⟩ hb_4_1, e_X4_takeToldName hS ⟨ssk_8 hS, ssl_8 hS⟩ hb_4_1, e_X9_isTold hO_9_t, e_X4_readBeside_78 hO_9_t hS hb_3_10 hb_4_1 (e_X4_readBeside_84 hO_9_t hS hb_3_10 hb_4_1), e_X4_readBeside_84 hO_9_t hS hb_3_10 hb_4_1]
set_option maxHeartbeats 400000 in
set_option maxRecDepth 100000 in
theorem e_X4_readBeside {Γ : rhG} {R : Nat → Nat → Nat} {t : Nat} (hO_9_t : Sh9 Γ R t) (hS : ShS Γ R) (hb_3_10 : R 3 10 = t) (hb_4_1 : R 4 1 = 2) : ∀ (s : ryS), f_X4_readBeside Γ (ryM s R) 3 = Option.map (fun s => ryM s R) (g_X4_readBeside t s) := by
  have z9t := hO_9_t
  obtain ⟨q9t_0, q9t_1, q9t_2, q9t_3, q9t_4, q9t_5, q9t_6, q9t_7, q9t_8, q9t_9, q9t_10, q9t_11, q9t_12, q9t_13, q9t_14, q9t_15, q9t_16, hO_1_t⟩ := z9t
  obtain ⟨q1t_0, q1t_1, q1t_2, q1t_3, q1t_4, q1t_5, q1t_6, q1t_7, q1t_8, q1t_9, q1t_10, q1t_11, q1t_12⟩ := hO_1_t
  intros
  simp only [f_X4_readBeside, g_X4_readBeside, rhck, ryM_1, ryM_2, ryM_3, ry_si, ry_sl, if_true, ry_ck, Option.map_some, Option.map_none, ry_ite, ry_bm, ry_mb, Nat.add_assoc, Nat.reduceAdd, Option.some_bind, Option.bind_some, hb_3_10, ssk_3 hS, q9t_0, q9t_1, q9t_2, q9t_3, q9t_4, q9t_5, q9t_6, q9t_7, q9t_8, q9t_9, q9t_10, q9t_11, q9t_12, q9t_13, q9t_14, q9t_15, q9t_16, q1t_0, q1t_1, q1t_2, q1t_3, q1t_4, q1t_5, q1t_6, q1t_7, q1t_8, q1t_9, q1t_10, q1t_11, q1t_12, e_X4_readBeside_18 hO_9_t hS hb_3_10 hb_4_1]
def g_X4_readDraws (t : Nat) (s : ryS) : Option (ryS) :=
    (g_X4_advanceUnless s (s.1 3 8)).bind fun r1 =>
    let s2 := rysi r1 3 8 1
    (g_X4_takeNumber s2 (1 : Int32) (999 : Int32) (s2.1 4 5)).bind fun r3 =>
    let s4 := rysi r3.2 t 3 r3.1
    (g_X4_takeSign s4 (59 : Int32)).bind fun r5 =>
    some r5
set_option maxHeartbeats 400000 in
set_option maxRecDepth 100000 in
theorem e_X4_readDraws {Γ : rhG} {R : Nat → Nat → Nat} {t : Nat} (hO_9_t : Sh9 Γ R t) (hS : ShS Γ R) (hb_3_10 : R 3 10 = t) (hb_4_1 : R 4 1 = 2) : ∀ (s : ryS), f_X4_readDraws Γ (ryM s R) 3 = Option.map (fun s => ryM s R) (g_X4_readDraws t s) := by
  have z9t := hO_9_t
  obtain ⟨q9t_0, q9t_1, q9t_2, q9t_3, q9t_4, q9t_5, q9t_6, q9t_7, q9t_8, q9t_9, q9t_10, q9t_11, q9t_12, q9t_13, q9t_14, q9t_15, q9t_16, hO_1_t⟩ := z9t
  obtain ⟨q1t_0, q1t_1, q1t_2, q1t_3, q1t_4, q1t_5, q1t_6, q1t_7, q1t_8, q1t_9, q1t_10, q1t_11, q1t_12⟩ := hO_1_t
  intros
  simp only [f_X4_readDraws, g_X4_readDraws, rhck, ryM_1, ryM_2, ryM_3, ry_si, ry_sl, if_true, ry_ck, Option.map_some, Option.map_none, ry_ite, ry_bm, ry_mb, Nat.add_assoc, Nat.reduceAdd, Option.some_bind, Option.bind_some, hb_3_10, ssk_3 hS, ssk_4 hS, ssr_3_2 hS, q9t_0, q9t_1, q9t_2, q9t_3, q9t_4, q9t_5, q9t_6, q9t_7, q9t_8, q9t_9, q9t_10, q9t_11, q9t_12, q9t_13, q9t_14, q9t_15, q9t_16, q1t_0, q1t_1, q1t_2, q1t_3, q1t_4, q1t_5, q1t_6, q1t_7, q1t_8, q1t_9, q1t_10, q1t_11, q1t_12, e_X4_advanceUnless hS hb_4_1, e_X4_takeNumber hS hb_4_1, e_X4_takeSign hS hb_4_1]
def g_X4_takeNewName_54 (l1 : Nat) (s : ryS) (v3 : Int64) : Option (Int64 × ryS) :=
    (g_X8_advance s).bind fun r3 =>
    some ((v3, r3))
def g_X4_takeNewName_18 (l1 : Nat) (s : ryS) : Option (Int64 × ryS) :=
    (g_X4_refuse s).bind fun r5 =>
    some (((0 : Int64), r5))
def g_X4_takeNewName (l1 : Nat) (s : ryS) (v1 : Nat) (v2 : Int32) : Option (Int64 × ryS) :=
    if (s.1 3 0) = 0 then
      (if (s.1 4 4) = 2 then
        (let x1 := s.2 4 6
        (g_X4_numberOf l1 s x1 v1 v2).bind fun r2 =>
        if r2 = ((-1)) then
          (g_X4_takeNewName_54 l1 s x1)
        else
          (g_X4_blame s (3 : Int32) (s.1 4 5)).bind fun r4 =>
          g_X4_takeNewName_54 l1 r4 x1)
      else
        g_X4_takeNewName_18 l1 s)
    else
      g_X4_takeNewName_18 l1 s
set_option maxHeartbeats 400000 in
set_option maxRecDepth 100000 in
theorem e_X4_takeNewName_54 {Γ : rhG} {R : Nat → Nat → Nat} {l1 : Nat} {v1 : Nat} (hS : ShS Γ R) (ha_1 : Γ.2.2.1 v1 = 16 ∧ Γ.2.2.2 v1 = l1) (hb_4_1 : R 4 1 = 2) : ∀ (s : ryS) (v3 : Int64), f_X4_takeNewName_54 Γ (ryM s R) 3 v3 = Option.map (fun q => (q.1, ryM q.2 R)) (g_X4_takeNewName_54 l1 s v3) := by
  intros
  simp only [f_X4_takeNewName_54, g_X4_takeNewName_54, rhck, ryM_1, ryM_2, ryM_3, ry_si, ry_sl, if_true, ry_ck, Option.map_some, Option.map_none, ry_ite, ry_bm, ry_mb, Nat.add_assoc, Nat.reduceAdd, Option.some_bind, Option.bind_some, ssk_3 hS, ssk_4 hS, ssr_3_2 hS, e_X8_advance hS hb_4_1]
set_option maxHeartbeats 400000 in
set_option maxRecDepth 100000 in
theorem e_X4_takeNewName_18 {Γ : rhG} {R : Nat → Nat → Nat} {l1 : Nat} {v1 : Nat} (hS : ShS Γ R) (ha_1 : Γ.2.2.1 v1 = 16 ∧ Γ.2.2.2 v1 = l1) (hb_4_1 : R 4 1 = 2) : ∀ (s : ryS), f_X4_takeNewName_18 Γ (ryM s R) 3 = Option.map (fun q => (q.1, ryM q.2 R)) (g_X4_takeNewName_18 l1 s) := by
  intros
  simp only [f_X4_takeNewName_18, g_X4_takeNewName_18, rhck, ryM_1, ryM_2, ryM_3, ry_si, ry_sl, if_true, ry_ck, Option.map_some, Option.map_none, ry_ite, ry_bm, ry_mb, Nat.add_assoc, Nat.reduceAdd, Option.some_bind, Option.bind_some, ssk_3 hS, e_X4_refuse hS]
set_option maxHeartbeats 400000 in
set_option maxRecDepth 100000 in
theorem e_X4_takeNewName {Γ : rhG} {R : Nat → Nat → Nat} {l1 : Nat} {v1 : Nat} (hS : ShS Γ R) (ha_1 : Γ.2.2.1 v1 = 16 ∧ Γ.2.2.2 v1 = l1) (hb_4_1 : R 4 1 = 2) : ∀ (s : ryS) (v2 : Int32), f_X4_takeNewName Γ (ryM s R) 3 v1 v2 = Option.map (fun q => (q.1, ryM q.2 R)) (g_X4_takeNewName l1 s v1 v2) := by
  intros
  simp only [f_X4_takeNewName, g_X4_takeNewName, rhck, ryM_1, ryM_2, ryM_3, ry_si, ry_sl, if_true, ry_ck, Option.map_some, Option.map_none, ry_ite, ry_bm, ry_mb, Nat.add_assoc, Nat.reduceAdd, Option.some_bind, Option.bind_some, ssk_3 hS, ssk_4 hS, ssr_3_2 hS, e_X4_numberOf ha_1, e_X4_blame hS, e_X4_takeNewName_54 hS ha_1 hb_4_1, e_X4_takeNewName_18 hS ha_1 hb_4_1]
