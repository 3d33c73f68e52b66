def g_X12_layNow_2 (k26 : ryS → Option (ryS)) : Nat → ryS → Int32 → Option (ryS)
  | 0, _, _ => none
  | n + 1, s, v1 =>
    if v1 < 8 then
      (rhck (0 ≤ (v1).toInt ∧ (v1).toInt < (8 : Nat)) <|
      rhck (0 ≤ (v1).toInt ∧ (v1).toInt < (8 : Nat)) <|
      let s1 := rysi s 128 (v1 : Int32).toNatClampNeg ((s.1 131 v1.toNatClampNeg))
      let x2 : Int32 := v1 + 1
      g_X12_layNow_2 k26 n s1 x2)
    else
      k26 s
def g_X12_layNow_28 : Nat → ryS → Int32 → Option (ryS)
  | 0, _, _ => none
  | n + 1, s, v1 =>
    if v1 < 5 then
      (rhck (0 ≤ (v1).toInt ∧ (v1).toInt < (6 : Nat)) <|
      rhck (0 ≤ (v1).toInt ∧ (v1).toInt < (6 : Nat)) <|
      let s3 := rysi s 129 (v1 : Int32).toNatClampNeg ((s.1 132 v1.toNatClampNeg))
      let x4 : Int32 := v1 + 1
      g_X12_layNow_28 n s3 x4)
    else
      some s
def g_X12_layNow_26 (s : ryS) : Option (ryS) :=
    g_X12_layNow_28 rhFU s 0
def g_X12_layNow (s : ryS) : Option (ryS) :=
    g_X12_layNow_2 (g_X12_layNow_26) rhFU s 0
set_option maxHeartbeats 400000 in
set_option maxRecDepth 100000 in
theorem e_X12_layNow_2 {Γ : rhG} {R : Nat → Nat → Nat} (hS : ShS Γ R) {f26 : rhM → Nat → Option (rhM)} {k26 : ryS → Option (ryS)} (hk26 : ∀ (s : ryS), f26 (ryM s R) 102 = Option.map (fun s => ryM s R) (k26 s)) : ∀ (n : Nat) (s : ryS) (v1 : Int32), f_X12_layNow_2 f26 Γ n (ryM s R) 102 v1 = Option.map (fun s => ryM s R) (g_X12_layNow_2 k26 n s v1) := by
  intro n
  induction n with
  | zero => intros; simp only [f_X12_layNow_2, g_X12_layNow_2, Option.map_none]
  | succ n ih =>
    intros
    simp only [f_X12_layNow_2, g_X12_layNow_2, rhck, ryM_1, ryM_2, ryM_3, ry_si, ry_sl, if_true, ry_ck, Option.map_some, Option.map_none, ry_ite, ry_bm, ry_mb, Nat.add_assoc, Nat.reduceAdd, Option.some_bind, Option.bind_some, ssk_102 hS, ssk_128 hS, ssk_131 hS, ssl_128 hS, ssl_131 hS, ssr_102_39 hS, ssr_102_42 hS, hk26, ih]
set_option maxHeartbeats 400000 in
set_option maxRecDepth 100000 in
theorem e_X12_layNow_28 {Γ : rhG} {R : Nat → Nat → Nat} (hS : ShS Γ R) : ∀ (n : Nat) (s : ryS) (v1 : Int32), f_X12_layNow_28 Γ n (ryM s R) 102 v1 = Option.map (fun s => ryM s R) (g_X12_layNow_28 n s v1) := by
  intro n
  induction n with
  | zero => intros; simp only [f_X12_layNow_28, g_X12_layNow_28, Option.map_none]
  | succ n ih =>
    intros
    simp only [f_X12_layNow_28, g_X12_layNow_28, rhck, ryM_1, ryM_2, ryM_3, ry_si, ry_sl, if_true, ry_ck, Option.map_some, Option.map_none, ry_ite, ry_bm, ry_mb, Nat.add_assoc, Nat.reduceAdd, Option.some_bind, Option.bind_some, ssk_102 hS, ssk_129 hS, ssk_132 hS, ssl_129 hS, ssl_132 hS, ssr_102_40 hS, ssr_102_43 hS, ih]
set_option maxHeartbeats 400000 in
set_option maxRecDepth 100000 in
theorem e_X12_layNow_26 {Γ : rhG} {R : Nat → Nat → Nat} (hS : ShS Γ R) : ∀ (s : ryS), f_X12_layNow_26 Γ (ryM s R) 102 = Option.map (fun s => ryM s R) (g_X12_layNow_26 s) := by
  intros
  simp only [f_X12_layNow_26, g_X12_layNow_26, rhck, ryM_1, ryM_2, ryM_3, ry_si, ry_sl, if_true, ry_ck, Option.map_some, Option.map_none, ry_ite, ry_bm, ry_mb, Nat.add_assoc, Nat.reduceAdd, Option.some_bind, Option.bind_some, e_X12_layNow_28 hS]
set_option maxHeartbeats 400000 in
set_option maxRecDepth 100000 in
theorem e_X12_layNow {Γ : rhG} {R : Nat → Nat → Nat} (hS : ShS Γ R) : ∀ (s : ryS), f_X12_layNow Γ (ryM s R) 102 = Option.map (fun s => ryM s R) (g_X12_layNow s) := by
  intros
  simp only [f_X12_layNow, g_X12_layNow, rhck, ryM_1, ryM_2, ryM_3, ry_si, ry_sl, if_true, ry_ck, Option.map_some, Option.map_none, ry_ite, ry_bm, ry_mb, Nat.add_assoc, Nat.reduceAdd, Option.some_bind, Option.bind_some, e_X12_layNow_2 hS (e_X12_layNow_26 hS), e_X12_layNow_26 hS]
def g_X12_asked (s : ryS) (v1 : Int32) (v2 : Int32) (v3 : Int32) : Option (Int32 × ryS) :=
    (g_X12_layNow s).bind fun r1 =>
    (g_X12_canBe r1 v1 v2 v3).bind fun r2 =>
    if r2 = 0 then
      (some (((-1000000), r1)))
    else
      (g_X12_comes r1 v1 v2 v3).bind fun r3 =>
      some ((r3.1, r3.2))
set_option maxHeartbeats 400000 in
set_option maxRecDepth 100000 in
theorem e_X12_asked {Γ : rhG} {R : Nat → Nat → Nat} (hS : ShS Γ R) : ∀ (s : ryS) (v1 : Int32) (v2 : Int32) (v3 : Int32), f_X12_asked Γ (ryM s R) 102 v1 v2 v3 = Option.map (fun q => (q.1, ryM q.2 R)) (g_X12_asked s v1 v2 v3) := by
  intros
  simp only [f_X12_asked, g_X12_asked, rhck, ryM_1, ryM_2, ryM_3, ry_si, ry_sl, if_true, ry_ck, Option.map_some, Option.map_none, ry_ite, ry_bm, ry_mb, Nat.add_assoc, Nat.reduceAdd, Option.some_bind, Option.bind_some, ssk_102 hS, e_X12_layNow hS, e_X12_canBe hS, e_X12_comes hS]
def g_X12_back_42 (k71 : ryS → Int32 → Option (Int32 × ryS)) : Nat → ryS → Int32 → Int32 → Option (Int32 × ryS)
  | 0, _, _, _ => none
  | n + 1, s, v1, v2 =>
    if v2 < 8 then
      (rhck (0 ≤ ((8 * v1) + v2).toInt ∧ ((8 * v1) + v2).toInt < (24 : Nat)) <|
      rhck (0 ≤ (v2).toInt ∧ (v2).toInt < (8 : Nat)) <|
      let s4 := rysi s 131 (v2 : Int32).toNatClampNeg ((s.1 161 ((8 * v1) + v2).toNatClampNeg))
      let x5 : Int32 := v2 + 1
      g_X12_back_42 k71 n s4 v1 x5)
    else
      k71 s v1
def g_X12_back_73 (k101 : ryS → Int32 → Option (Int32 × ryS)) : Nat → ryS → Int32 → Int32 → Option (Int32 × ryS)
  | 0, _, _, _ => none
  | n + 1, s, v1, v2 =>
    if v2 < 5 then
      (rhck (0 ≤ ((6 * v1) + v2).toInt ∧ ((6 * v1) + v2).toInt < (18 : Nat)) <|
      rhck (0 ≤ (v2).toInt ∧ (v2).toInt < (6 : Nat)) <|
      let s6 := rysi s 132 (v2 : Int32).toNatClampNeg ((s.1 162 ((6 * v1) + v2).toNatClampNeg))
      let x7 : Int32 := v2 + 1
      g_X12_back_73 k101 n s6 v1 x7)
    else
      k101 s v1
def g_X12_back_103 : Nat → ryS → Int32 → Int32 → Option (Int32 × ryS)
  | 0, _, _, _ => none
  | n + 1, s, v1, v2 =>
    if v2 < (s.1 102 48) then
      (rhck (0 ≤ ((300 * v1) + v2).toInt ∧ ((300 * v1) + v2).toInt < (900 : Nat)) <|
      rhck (0 ≤ (v2).toInt ∧ (v2).toInt < (300 : Nat)) <|
      let s8 := rysi s 133 (v2 : Int32).toNatClampNeg ((s.1 163 ((300 * v1) + v2).toNatClampNeg))
      rhck (0 ≤ ((300 * v1) + v2).toInt ∧ ((300 * v1) + v2).toInt < (900 : Nat)) <|
      rhck (0 ≤ (v2).toInt ∧ (v2).toInt < (300 : Nat)) <|
      let s9 := rysi s8 134 (v2 : Int32).toNatClampNeg ((s8.1 164 ((300 * v1) + v2).toNatClampNeg))
      let x10 : Int32 := v2 + 1
      g_X12_back_103 n s9 v1 x10)
    else
      some ((s.1 102 48, s))
def g_X12_back_101 (s : ryS) (v1 : Int32) : Option (Int32 × ryS) :=
    g_X12_back_103 rhFU s v1 0
def g_X12_back_71 (s : ryS) (v1 : Int32) : Option (Int32 × ryS) :=
    g_X12_back_73 (g_X12_back_101) rhFU s v1 0
def g_X12_back (s : ryS) (v1 : Int32) : Option (Int32 × ryS) :=
    (g_X12_isIn s v1 (0 : Int32) (2 : Int32)).bind fun r1 =>
    if r1 = 0 then
      (some (((-1), s)))
    else
      rhck (0 ≤ (v1).toInt ∧ (v1).toInt < (3 : Nat)) <|
      if (s.1 159 v1.toNatClampNeg) < 0 then
        (some (((-1), s)))
      else
        let s2 := rysi s 102 48 (s.1 159 v1.toNatClampNeg)
        rhck (0 ≤ (v1).toInt ∧ (v1).toInt < (3 : Nat)) <|
        let s3 := rysi s2 102 49 (s2.1 160 v1.toNatClampNeg)
        g_X12_back_42 (g_X12_back_71) rhFU s3 v1 0
set_option maxHeartbeats 400000 in
set_option maxRecDepth 100000 in
theorem e_X12_back_42 {Γ : rhG} {R : Nat → Nat → Nat} (hS : ShS Γ R) {f71 : rhM → Nat → Int32 → Option (Int32 × rhM)} {k71 : ryS → Int32 → Option (Int32 × ryS)} (hk71 : ∀ (s : ryS) (v1 : Int32), f71 (ryM s R) 102 v1 = Option.map (fun q => (q.1, ryM q.2 R)) (k71 s v1)) : ∀ (n : Nat) (s : ryS) (v1 : Int32) (v2 : Int32), f_X12_back_42 f71 Γ n (ryM s R) 102 v1 v2 = Option.map (fun q => (q.1, ryM q.2 R)) (g_X12_back_42 k71 n s v1 v2) := by
  intro n
  induction n with
  | zero => intros; simp only [f_X12_back_42, g_X12_back_42, Option.map_none]
  | succ n ih =>
    intros
    simp only [f_X12_back_42, g_X12_back_42, rhck, ryM_1, ryM_2, ryM_3, ry_si, ry_sl, if_true, ry_ck, Option.map_some, Option.map_none, ry_ite, ry_bm, ry_mb, Nat.add_assoc, Nat.reduceAdd, Option.some_bind, Option.bind_some, ssk_102 hS, ssk_131 hS, ssk_161 hS, ssl_131 hS, ssl_161 hS, ssr_102_42 hS, ssr_102_86 hS, hk71, ih]
set_option maxHeartbeats 400000 in
set_option maxRecDepth 100000 in
theorem e_X12_back_73 {Γ : rhG} {R : Nat → Nat → Nat} (hS : ShS Γ R) {f101 : rhM → Nat → Int32 → Option (Int32 × rhM)} {k101 : ryS → Int32 → Option (Int32 × ryS)} (hk101 : ∀ (s : ryS) (v1 : Int32), f101 (ryM s R) 102 v1 = Option.map (fun q => (q.1, ryM q.2 R)) (k101 s v1)) : ∀ (n : Nat) (s : ryS) (v1 : Int32) (v2 : Int32), f_X12_back_73 f101 Γ n (ryM s R) 102 v1 v2 = Option.map (fun q => (q.1, ryM q.2 R)) (g_X12_back_73 k101 n s v1 v2) := by
  intro n
  induction n with
  | zero => intros; simp only [f_X12_back_73, g_X12_back_73, Option.map_none]
  | succ n ih =>
    intros
    simp only [f_X12_back_73, g_X12_back_73, rhck, ryM_1, ryM_2, ryM_3, ry_si, ry_sl, if_true, ry_ck, Option.map_some, Option.map_none, ry_ite, ry_bm, ry_mb, Nat.add_assoc, Nat.reduceAdd, Option.some_bind, Option.bind_some, ssk_102 hS, ssk_132 hS, ssk_162 hS, ssl_132 hS, ssl_162 hS, ssr_102_43 hS, ssr_102_87 hS, hk101, ih]
set_option maxHeartbeats 400000 in
set_option maxRecDepth 100000 in
theorem e_X12_back_103 {Γ : rhG} {R : Nat → Nat → Nat} (hS : ShS Γ R) : ∀ (n : Nat) (s : ryS) (v1 : Int32) (v2 : Int32), f_X12_back_103 Γ n (ryM s R) 102 v1 v2 = Option.map (fun q => (q.1, ryM q.2 R)) (g_X12_back_103 n s v1 v2) := by
  intro n
  induction n with
  | zero => intros; simp only [f_X12_back_103, g_X12_back_103, Option.map_none]
  | succ n ih =>
    intros
    simp only [f_X12_back_103, g_X12_back_103, rhck, ryM_1, ryM_2, ryM_3, ry_si, ry_sl, if_true, ry_ck, Option.map_some, Option.map_none, ry_ite, ry_bm, ry_mb, Nat.add_assoc, Nat.reduceAdd, Option.some_bind, Option.bind_some, ssk_102 hS, ssk_133 hS, ssk_134 hS, ssk_163 hS, ssk_164 hS, ssl_133 hS, ssl_134 hS, ssl_163 hS, ssl_164 hS, ssr_102_46 hS, ssr_102_47 hS, ssr_102_88 hS, ssr_102_89 hS, ih]
set_option maxHeartbeats 400000 in
set_option maxRecDepth 100000 in
theorem e_X12_back_101 {Γ : rhG} {R : Nat → Nat → Nat} (hS : ShS Γ R) : ∀ (s : ryS) (v1 : Int32), f_X12_back_101 Γ (ryM s R) 102 v1 = Option.map (fun q => (q.1, ryM q.2 R)) (g_X12_back_101 s v1) := by
  intros
  simp only [f_X12_back_101, g_X12_back_101, rhck, ryM_1, ryM_2, ryM_3, ry_si, ry_sl, if_true, ry_ck, Option.map_some, Option.map_none, ry_ite, ry_bm, ry_mb, Nat.add_assoc, Nat.reduceAdd, Option.some_bind, Option.bind_some, e_X12_back_103 hS]
set_option maxHeartbeats 400000 in
set_option maxRecDepth 100000 in
theorem e_X12_back_71 {Γ : rhG} {R : Nat → Nat → Nat} (hS : ShS Γ R) : ∀ (s : ryS) (v1 : Int32), f_X12_back_71 Γ (ryM s R) 102 v1 = Option.map (fun q => (q.1, ryM q.2 R)) (g_X12_back_71 s v1) := by
  intros
  simp only [f_X12_back_71, g_X12_back_71, rhck, ryM_1, ryM_2, ryM_3, ry_si, ry_sl, if_true, ry_ck, Option.map_some, Option.map_none, ry_ite, ry_bm, ry_mb, Nat.add_assoc, Nat.reduceAdd, Option.some_bind, Option.bind_some, e_X12_back_73 hS (e_X12_back_101 hS), e_X12_back_101 hS]
set_option maxHeartbeats 400000 in
set_option maxRecDepth 100000 in
theorem e_X12_back {Γ : rhG} {R : Nat → Nat → Nat} (hS : ShS Γ R) : ∀ (s : ryS) (v1 : Int32), f_X12_back Γ (ryM s R) 102 v1 = Option.map (fun q => (q.1, ryM q.2 R)) (g_X12_back s v1) := by
  intros
  simp only [f_X12_back, g_X12_back, rhck, ryM_1, ryM_2, ryM_3, ry_si, ry_sl, if_true, ry_ck, Option.map_some, Option.map_none, ry_ite, ry_bm, ry_mb, Nat.add_assoc, Nat.reduceAdd, Option.some_bind, Option.bind_some, ssk_102 hS, ssk_159 hS, ssk_160 hS, ssl_159 hS, ssl_160 hS, ssr_102_84 hS, ssr_102_85 hS, e_X12_isIn, e_X12_back_42 hS (e_X12_back_71 hS), e_X12_back_71 hS]
def g_X12_keepNow_2 (k26 : ryS → Option (ryS)) : Nat → ryS → Int32 → Option (ryS)
  | 0, _, _ => none
  | n + 1, s, v1 =>
    if v1 < 8 then
      (rhck (0 ≤ (v1).toInt ∧ (v1).toInt < (8 : Nat)) <|
      rhck (0 ≤ (v1).toInt ∧ (v1).toInt < (8 : Nat)) <|
      let s1 := rysi s 131 (v1 : Int32).toNatClampNeg ((s.1 128 v1.toNatClampNeg))
      let x2 : Int32 := v1 + 1
      g_X12_keepNow_2 k26 n s1 x2)
    else
      k26 s
def g_X12_keepNow_28 : Nat → ryS → Int32 → Option (ryS)
  | 0, _, _ => none
  | n + 1, s, v1 =>
    if v1 < 5 then
      (rhck (0 ≤ (v1).toInt ∧ (v1).toInt < (6 : Nat)) <|
      rhck (0 ≤ (v1).toInt ∧ (v1).toInt < (6 : Nat)) <|
      let s3 := rysi s 132 (v1 : Int32).toNatClampNeg ((s.1 129 v1.toNatClampNeg))
      let x4 : Int32 := v1 + 1
      g_X12_keepNow_28 n s3 x4)
    else
      some s
def g_X12_keepNow_26 (s : ryS) : Option (ryS) :=
    g_X12_keepNow_28 rhFU s 0
def g_X12_keepNow (s : ryS) : Option (ryS) :=
    g_X12_keepNow_2 (g_X12_keepNow_26) rhFU s 0
set_option maxHeartbeats 400000 in
set_option maxRecDepth 100000 in
theorem e_X12_keepNow_2 {Γ : rhG} {R : Nat → Nat → Nat} (hS : ShS Γ R) {f26 : rhM → Nat → Option (rhM)} {k26 : ryS → Option (ryS)} (hk26 : ∀ (s : ryS), f26 (ryM s R) 102 = Option.map (fun s => ryM s R) (k26 s)) : ∀ (n : Nat) (s : ryS) (v1 : Int32), f_X12_keepNow_2 f26 Γ n (ryM s R) 102 v1 = Option.map (fun s => ryM s R) (g_X12_keepNow_2 k26 n s v1) := by
  intro n
  induction n with
  | zero => intros; simp only [f_X12_keepNow_2, g_X12_keepNow_2, Option.map_none]
  | succ n ih =>
    intros
    simp only [f_X12_keepNow_2, g_X12_keepNow_2, rhck, ryM_1, ryM_2, ryM_3, ry_si, ry_sl, if_true, ry_ck, Option.map_some, Option.map_none, ry_ite, ry_bm, ry_mb, Nat.add_assoc, Nat.reduceAdd, Option.some_bind, Option.bind_some, ssk_102 hS, ssk_128 hS, ssk_131 hS, ssl_128 hS, ssl_131 hS, ssr_102_39 hS, ssr_102_42 hS, hk26, ih]
set_option maxHeartbeats 400000 in
set_option maxRecDepth 100000 in
theorem e_X12_keepNow_28 {Γ : rhG} {R : Nat → Nat → Nat} (hS : ShS Γ R) : ∀ (n : Nat) (s : ryS) (v1 : Int32), f_X12_keepNow_28 Γ n (ryM s R) 102 v1 = Option.map (fun s => ryM s R) (g_X12_keepNow_28 n s v1) := by
  intro n
  induction n with
  | zero => intros; simp only [f_X12_keepNow_28, g_X12_keepNow_28, Option.map_none]
  | succ n ih =>
    intros
    simp only [f_X12_keepNow_28, g_X12_keepNow_28, rhck, ryM_1, ryM_2, ryM_3, ry_si, ry_sl, if_true, ry_ck, Option.map_some, Option.map_none, ry_ite, ry_bm, ry_mb, Nat.add_assoc, Nat.reduceAdd, Option.some_bind, Option.bind_some, ssk_102 hS, ssk_129 hS, ssk_132 hS, ssl_129 hS, ssl_132 hS, ssr_102_40 hS, ssr_102_43 hS, ih]
set_option maxHeartbeats 400000 in
set_option maxRecDepth 100000 in
theorem e_X12_keepNow_26 {Γ : rhG} {R : Nat → Nat → Nat} (hS : ShS Γ R) : ∀ (s : ryS), f_X12_keepNow_26 Γ (ryM s R) 102 = Option.map (fun s => ryM s R) (g_X12_keepNow_26 s) := by
  intros
  simp only [f_X12_keepNow_26, g_X12_keepNow_26, rhck, ryM_1, ryM_2, ryM_3, ry_si, ry_sl, if_true, ry_ck, Option.map_some, Option.map_none, ry_ite, ry_bm, ry_mb, Nat.add_assoc, Nat.reduceAdd, Option.some_bind, Option.bind_some, e_X12_keepNow_28 hS]
set_option maxHeartbeats 400000 in
set_option maxRecDepth 100000 in
theorem e_X12_keepNow {Γ : rhG} {R : Nat → Nat → Nat} (hS : ShS Γ R) : ∀ (s : ryS), f_X12_keepNow Γ (ryM s R) 102 = Option.map (fun s => ryM s R) (g_X12_keepNow s) := by
  intros
  simp only [f_X12_keepNow, g_X12_keepNow, rhck, ryM_1, ryM_2, ryM_3, ry_si, ry_sl, if_true, ry_ck, Option.map_some, Option.map_none, ry_ite, ry_bm, ry_mb, Nat.add_assoc, Nat.reduceAdd, Option.some_bind, Option.bind_some, e_X12_keepNow_2 hS (e_X12_keepNow_26 hS), e_X12_keepNow_26 hS]
def g_X12_layFirst_53 (k14 : ryS → Int32 → Int32 → Int32 → Option (ryS)) (s : ryS) (v1 : Int32) (v2 : Int32) (v3 : Int32) : Option (ryS) :=
    let x5 : Int32 := v3 + 1
    k14 s v1 v2 x5
def g_X12_layFirst_14 (k59 : ryS → Int32 → Int32 → Option (ryS)) : Nat → ryS → Int32 → Int32 → Int32 → Option (ryS)
  | 0, _, _, _, _ => none
  | n + 1, s, v1, v2, v3 =>
    (g_X12_houseMany s).bind fun r2 =>
    if v3 < r2 then
      (rhck (0 ≤ ((8 * (s.1 102 34)) + v3).toInt ∧ ((8 * (s.1 102 34)) + v3).toInt < (16 : Nat)) <|
      if (s.1 115 ((8 * (s.1 102 34)) + v3).toNatClampNeg) = v2 then
        (rhck (0 ≤ (v1).toInt ∧ (v1).toInt < (8 : Nat)) <|
        let s3 := rysi s 128 (v1 : Int32).toNatClampNeg v3
        let x4 : Int32 := v1 + 1
        g_X12_layFirst_53 (g_X12_layFirst_14 k59 n) s3 x4 v2 v3)
      else
        g_X12_layFirst_53 (g_X12_layFirst_14 k59 n) s v1 v2 v3)
    else
      k59 s v1 v2
def g_X12_layFirst_59 (k4 : ryS → Int32 → Int32 → Option (ryS)) (s : ryS) (v1 : Int32) (v2 : Int32) : Option (ryS) :=
    rhck (0 ≤ (v2).toInt ∧ (v2).toInt < (6 : Nat)) <|
    let s6 := rysi s 129 (v2 : Int32).toNatClampNeg v1
    let x7 : Int32 := v2 + 1
    k4 s6 v1 x7
def g_X12_layFirst_4 : Nat → ryS → Int32 → Int32 → Option (ryS)
  | 0, _, _, _ => none
  | n + 1, s, v1, v2 =>
    (g_X12_railMany s).bind fun r1 =>
    if v2 < r1 then
      (g_X12_layFirst_14 (g_X12_layFirst_59 (g_X12_layFirst_4 n)) rhFU s v1 v2 0)
    else
      some s
def g_X12_layFirst (s : ryS) : Option (ryS) :=
    g_X12_layFirst_4 rhFU s 0 0
set_option maxHeartbeats 400000 in
set_option maxRecDepth 100000 in
theorem e_X12_layFirst_53 {Γ : rhG} {R : Nat → Nat → Nat} (hS : ShS Γ R) {f14 : rhM → Nat → Int32 → Int32 → Int32 → Option (rhM)} {k14 : ryS → Int32 → Int32 → Int32 → Option (ryS)} (hk14 : ∀ (s : ryS) (v1 : Int32) (v2 : Int32) (v3 : Int32), f14 (ryM s R) 102 v1 v2 v3 = Option.map (fun s => ryM s R) (k14 s v1 v2 v3)) : ∀ (s : ryS) (v1 : Int32) (v2 : Int32) (v3 : Int32), f_X12_layFirst_53 f14 Γ (ryM s R) 102 v1 v2 v3 = Option.map (fun s => ryM s R) (g_X12_layFirst_53 k14 s v1 v2 v3) := by
  intros
  simp only [f_X12_layFirst_53, g_X12_layFirst_53, rhck, ryM_1, ryM_2, ryM_3, ry_si, ry_sl, if_true, ry_ck, Option.map_some, Option.map_none, ry_ite, ry_bm, ry_mb, Nat.add_assoc, Nat.reduceAdd, Option.some_bind, Option.bind_some, hk14]
set_option maxHeartbeats 400000 in
set_option maxRecDepth 100000 in
theorem e_X12_layFirst_14 {Γ : rhG} {R : Nat → Nat → Nat} (hS : ShS Γ R) {f59 : rhM → Nat → Int32 → Int32 → Option (rhM)} {k59 : ryS → Int32 → Int32 → Option (ryS)} (hk59 : ∀ (s : ryS) (v1 : Int32) (v2 : Int32), f59 (ryM s R) 102 v1 v2 = Option.map (fun s => ryM s R) (k59 s v1 v2)) : ∀ (n : Nat) (s : ryS) (v1 : Int32) (v2 : Int32) (v3 : Int32), f_X12_layFirst_14 f59 Γ n (ryM s R) 102 v1 v2 v3 = Option.map (fun s => ryM s R) (g_X12_layFirst_14 k59 n s v1 v2 v3) := by
  intro n
  induction n with
  | zero => intros; simp only [f_X12_layFirst_14, g_X12_layFirst_14, Option.map_none]
  | succ n ih =>
    intros
    simp only [f_X12_layFirst_14, g_X12_layFirst_14, rhck, ryM_1, ryM_2, ryM_3, ry_si, ry_sl, if_true, ry_ck, Option.map_some, Option.map_none, ry_ite, ry_bm, ry_mb, Nat.add_assoc, Nat.reduceAdd, Option.some_bind, Option.bind_some, ssk_102 hS, ssk_115 hS, ssk_128 hS, ssl_115 hS, ssl_128 hS, ssr_102_21 hS, ssr_102_39 hS, e_X12_houseMany hS, hk59, e_X12_layFirst_53 hS ih, ih]
set_option maxHeartbeats 400000 in
set_option maxRecDepth 100000 in
theorem e_X12_layFirst_59 {Γ : rhG} {R : Nat → Nat → Nat} (hS : ShS Γ R) {f4 : rhM → Nat → Int32 → Int32 → Option (rhM)} {k4 : ryS → Int32 → Int32 → Option (ryS)} (hk4 : ∀ (s : ryS) (v1 : Int32) (v2 : Int32), f4 (ryM s R) 102 v1 v2 = Option.map (fun s => ryM s R) (k4 s v1 v2)) : ∀ (s : ryS) (v1 : Int32) (v2 : Int32), f_X12_layFirst_59 f4 Γ (ryM s R) 102 v1 v2 = Option.map (fun s => ryM s R) (g_X12_layFirst_59 k4 s v1 v2) := by
  intros
  simp only [f_X12_layFirst_59, g_X12_layFirst_59, rhck, ryM_1, ryM_2, ryM_3, ry_si, ry_sl, if_true, ry_ck, Option.map_some, Option.map_none, ry_ite, ry_bm, ry_mb, Nat.add_assoc, Nat.reduceAdd, Option.some_bind, Option.bind_some, ssk_102 hS, ssk_129 hS, ssl_129 hS, ssr_102_40 hS, hk4]
set_option maxHeartbeats 400000 in
set_option maxRecDepth 100000 in
theorem e_X12_layFirst_4 {Γ : rhG} {R : Nat → Nat → Nat} (hS : ShS Γ R) : ∀ (n : Nat) (s : ryS) (v1 : Int32) (v2 : Int32), f_X12_layFirst_4 Γ n (ryM s R) 102 v1 v2 = Option.map (fun s => ryM s R) (g_X12_layFirst_4 n s v1 v2) := by
  intro n
  induction n with
  | zero => intros; simp only [f_X12_layFirst_4, g_X12_layFirst_4, Option.map_none]
  | succ n ih =>
    intros
    simp only [f_X12_layFirst_4, g_X12_layFirst_4, rhck, ryM_1, ryM_2, ryM_3, ry_si, ry_sl, if_true, ry_ck, Option.map_some, Option.map_none, ry_ite, ry_bm, ry_mb, Nat.add_assoc, Nat.reduceAdd, Option.some_bind, Option.bind_some, ssk_102 hS, e_X12_railMany hS, e_X12_layFirst_14 hS (e_X12_layFirst_59 hS ih), e_X12_layFirst_59 hS ih, ih]
set_option maxHeartbeats 400000 in
set_option maxRecDepth 100000 in
theorem e_X12_layFirst {Γ : rhG} {R : Nat → Nat → Nat} (hS : ShS Γ R) : ∀ (s : ryS), f_X12_layFirst Γ (ryM s R) 102 = Option.map (fun s => ryM s R) (g_X12_layFirst s) := by
  intros
  simp only [f_X12_layFirst, g_X12_layFirst, rhck, ryM_1, ryM_2, ryM_3, ry_si, ry_sl, if_true, ry_ck, Option.map_some, Option.map_none, ry_ite, ry_bm, ry_mb, Nat.add_assoc, Nat.reduceAdd, Option.some_bind, Option.bind_some, e_X12_layFirst_4 hS]
def g_X12_begin (s : ryS) : Option (ryS) :=
    (g_X12_layFirst s).bind fun r1 =>
    (g_X12_keepNow r1).bind fun r2 =>
    let s3 := rysi r2 102 48 0
    let s4 := rysi s3 102 49 0
    some s4
set_option maxHeartbeats 400000 in
set_option maxRecDepth 100000 in
theorem e_X12_begin {Γ : rhG} {R : Nat → Nat → Nat} (hS : ShS Γ R) : ∀ (s : ryS), f_X12_begin Γ (ryM s R) 102 = Option.map (fun s => ryM s R) (g_X12_begin s) := by
  intros
  simp only [f_X12_begin, g_X12_begin, rhck, ryM_1, ryM_2, ryM_3, ry_si, ry_sl, if_true, ry_ck, Option.map_some, Option.map_none, ry_ite, ry_bm, ry_mb, Nat.add_assoc, Nat.reduceAdd, Option.some_bind, Option.bind_some, ssk_102 hS, e_X12_layFirst hS, e_X12_keepNow hS]
def g_X12_stateOf_51 (k22 : Int32 → Int32 → Int32 → Int32 → Int32 → Option (Int32)) (s : ryS) (v1 : Int32) (v2 : Int32) (v3 : Int32) (v5 : Int32) (w0 : Int32) (w1 : Int32) : Option (Int32) :=
    let x3 := w0 + w1
    let x4 : Int32 := v5 + 1
    k22 v1 v2 v3 x3 x4
def g_X12_stateOf_22 (k60 : Int32 → Int32 → Int32 → Int32 → Option (Int32)) (s : ryS) : Nat → Int32 → Int32 → Int32 → Int32 → Int32 → Option (Int32)
  | 0, _, _, _, _, _ => none
  | n + 1, v1, v2, v3, v4, v5 =>
    if v5 < v1 then
      (rhck (0 ≤ (v5).toInt ∧ (v5).toInt < (8 : Nat)) <|
      rhck (0 ≤ (v3).toInt ∧ (v3).toInt < (8 : Nat)) <|
      if (s.1 128 v5.toNatClampNeg) < (s.1 128 v3.toNatClampNeg) then
        (g_X12_stateOf_51 (g_X12_stateOf_22 k60 s n) s v1 v2 v3 v5 v4 1)
      else
        g_X12_stateOf_51 (g_X12_stateOf_22 k60 s n) s v1 v2 v3 v5 v4 0)
    else
      k60 v1 v2 v3 v4
def g_X12_stateOf_60 (k9 : Int32 → Int32 → Int32 → Option (Int32)) (s : ryS) (v1 : Int32) (v2 : Int32) (v3 : Int32) (v4 : Int32) : Option (Int32) :=
    let x5 := (v2 * (v1 - v3)) + v4
    let x6 : Int32 := v3 + 1
    k9 v1 x5 x6
def g_X12_stateOf_9 (k75 : Int32 → Option (Int32)) (s : ryS) : Nat → Int32 → Int32 → Int32 → Option (Int32)
  | 0, _, _, _ => none
  | n + 1, v1, v2, v3 =>
    if v3 < v1 then
      (let x2 := v3 + 1
      g_X12_stateOf_22 (g_X12_stateOf_60 (g_X12_stateOf_9 k75 s n) s) s rhFU v1 v2 v3 0 x2)
    else
      k75 v2
def g_X12_stateOf_104 (k77 : Int32 → Int32 → Option (Int32)) (s : ryS) (v3 : Int32) (w0 : Int32) (w1 : Int32) : Option (Int32) :=
    let x8 := w0 + w1
    let x9 : Int32 := v3 + 1
    k77 x8 x9
def g_X12_stateOf_77 (s : ryS) : Nat → Int32 → Int32 → Option (Int32)
  | 0, _, _ => none
  | n + 1, v2, v3 =>
    if v3 < 3 then
      ((g_X12_railMany s).bind fun r7 =>
      if v3 < r7 then
        (rhck (0 ≤ (v3).toInt ∧ (v3).toInt < (6 : Nat)) <|
        g_X12_stateOf_104 (g_X12_stateOf_77 s n) s v3 (7 * v2) (s.1 129 v3.toNatClampNeg))
      else
        g_X12_stateOf_104 (g_X12_stateOf_77 s n) s v3 (7 * v2) 0)
    else
      some v2
def g_X12_stateOf_75 (s : ryS) (v2 : Int32) : Option (Int32) :=
    g_X12_stateOf_77 s rhFU v2 0
def g_X12_stateOf (s : ryS) : Option (Int32) :=
    (g_X12_houseMany s).bind fun r1 =>
    g_X12_stateOf_9 (g_X12_stateOf_75 s) s rhFU r1 0 0
set_option maxHeartbeats 400000 in
set_option maxRecDepth 100000 in
theorem e_X12_stateOf_51 {Γ : rhG} {R : Nat → Nat → Nat} (hS : ShS Γ R) {f22 : Nat → Int32 → Int32 → Int32 → Int32 → Int32 → Option (Int32)} {k22 : Int32 → Int32 → Int32 → Int32 → Int32 → Option (Int32)} (hk22 : ∀ (v1 : Int32) (v2 : Int32) (v3 : Int32) (v4 : Int32) (v5 : Int32), f22 102 v1 v2 v3 v4 v5 = k22 v1 v2 v3 v4 v5) {s : ryS} : ∀ (v1 : Int32) (v2 : Int32) (v3 : Int32) (v5 : Int32) (w0 : Int32) (w1 : Int32), f_X12_stateOf_51 f22 Γ (ryM s R) 102 v1 v2 v3 v5 w0 w1 = g_X12_stateOf_51 k22 s v1 v2 v3 v5 w0 w1 := by
  intros
  simp only [f_X12_stateOf_51, g_X12_stateOf_51, rhck, ryM_1, ryM_2, ryM_3, ry_si, ry_sl, if_true, ry_ck, Option.map_some, Option.map_none, ry_ite, ry_bm, ry_mb, Nat.add_assoc, Nat.reduceAdd, Option.some_bind, Option.bind_some, hk22]
set_option maxHeartbeats 400000 in
set_option maxRecDepth 100000 in
theorem e_X12_stateOf_22 {Γ : rhG} {R : Nat → Nat → Nat} (hS : ShS Γ R) {f60 : Nat → Int32 → Int32 → Int32 → Int32 → Option (Int32)} {k60 : Int32 → Int32 → Int32 → Int32 → Option (Int32)} (hk60 : ∀ (v1 : Int32) (v2 : Int32) (v3 : Int32) (v4 : Int32), f60 102 v1 v2 v3 v4 = k60 v1 v2 v3 v4) {s : ryS} : ∀ (n : Nat) (v1 : Int32) (v2 : Int32) (v3 : Int32) (v4 : Int32) (v5 : Int32), f_X12_stateOf_22 f60 Γ (ryM s R) n 102 v1 v2 v3 v4 v5 = g_X12_stateOf_22 k60 s n v1 v2 v3 v4 v5 := by
  intro n
  induction n with
  | zero => intros; simp only [f_X12_stateOf_22, g_X12_stateOf_22, Option.map_none]
  | succ n ih =>
    intros
    simp only [f_X12_stateOf_22, g_X12_stateOf_22, rhck, ryM_1, ryM_2, ryM_3, ry_si, ry_sl, if_true, ry_ck, Option.map_some, Option.map_none, ry_ite, ry_bm, ry_mb, Nat.add_assoc, Nat.reduceAdd, Option.some_bind, Option.bind_some, ssk_102 hS, ssk_128 hS, ssl_128 hS, ssr_102_39 hS, hk60, e_X12_stateOf_51 hS ih, ih]
set_option maxHeartbeats 400000 in
set_option maxRecDepth 100000 in
theorem e_X12_stateOf_60 {Γ : rhG} {R : Nat → Nat → Nat} (hS : ShS Γ R) {f9 : Nat → Int32 → Int32 → Int32 → Option (Int32)} {k9 : Int32 → Int32 → Int32 → Option (Int32)} (hk9 : ∀ (v1 : Int32) (v2 : Int32) (v3 : Int32), f9 102 v1 v2 v3 = k9 v1 v2 v3) {s : ryS} : ∀ (v1 : Int32) (v2 : Int32) (v3 : Int32) (v4 : Int32), f_X12_stateOf_60 f9 Γ (ryM s R) 102 v1 v2 v3 v4 = g_X12_stateOf_60 k9 s v1 v2 v3 v4 := by
  intros
  simp only [f_X12_stateOf_60, g_X12_stateOf_60, rhck, ryM_1, ryM_2, ryM_3, ry_si, ry_sl, if_true, ry_ck, Option.map_some, Option.map_none, ry_ite, ry_bm, ry_mb, Nat.add_assoc, Nat.reduceAdd, Option.some_bind, Option.bind_some, hk9]
set_option maxHeartbeats 400000 in
set_option maxRecDepth 100000 in
theorem e_X12_stateOf_9 {Γ : rhG} {R : Nat → Nat → Nat} (hS : ShS Γ R) {f75 : Nat → Int32 → Option (Int32)} {k75 : Int32 → Option (Int32)} (hk75 : ∀ (v2 : Int32), f75 102 v2 = k75 v2) {s : ryS} : ∀ (n : Nat) (v1 : Int32) (v2 : Int32) (v3 : Int32), f_X12_stateOf_9 f75 Γ (ryM s R) n 102 v1 v2 v3 = g_X12_stateOf_9 k75 s n v1 v2 v3 := by
  intro n
  induction n with
  | zero => intros; simp only [f_X12_stateOf_9, g_X12_stateOf_9, Option.map_none]
  | succ n ih =>
    intros
    simp only [f_X12_stateOf_9, g_X12_stateOf_9, rhck, ryM_1, ryM_2, ryM_3, ry_si, ry_sl, if_true, ry_ck, Option.map_some, Option.map_none, ry_ite, ry_bm, ry_mb, Nat.add_assoc, Nat.reduceAdd, Option.some_bind, Option.bind_some, hk75, e_X12_stateOf_22 hS (e_X12_stateOf_60 hS ih), e_X12_stateOf_60 hS ih, ih]
set_option maxHeartbeats 400000 in
set_option maxRecDepth 100000 in
theorem e_X12_stateOf_104 {Γ : rhG} {R : Nat → Nat → Nat} (hS : ShS Γ R) {f77 : Nat → Int32 → Int32 → Option (Int32)} {k77 : Int32 → Int32 → Option (Int32)} (hk77 : ∀ (v2 : Int32) (v3 : Int32), f77 102 v2 v3 = k77 v2 v3) {s : ryS} : ∀ (v3 : Int32) (w0 : Int32) (w1 : Int32), f_X12_stateOf_104 f77 Γ (ryM s R) 102 v3 w0 w1 = g_X12_stateOf_104 k77 s v3 w0 w1 := by
  intros
  simp only [f_X12_stateOf_104, g_X12_stateOf_104, rhck, ryM_1, ryM_2, ryM_3, ry_si, ry_sl, if_true, ry_ck, Option.map_some, Option.map_none, ry_ite, ry_bm, ry_mb, Nat.add_assoc, Nat.reduceAdd, Option.some_bind, Option.bind_some, hk77]
set_option maxHeartbeats 400000 in
set_option maxRecDepth 100000 in
theorem e_X12_stateOf_77 {Γ : rhG} {R : Nat → Nat → Nat} (hS : ShS Γ R) {s : ryS} : ∀ (n : Nat) (v2 : Int32) (v3 : Int32), f_X12_stateOf_77 Γ (ryM s R) n 102 v2 v3 = g_X12_stateOf_77 s n v2 v3 := by
  intro n
  induction n with
  | zero => intros; simp only [f_X12_stateOf_77, g_X12_stateOf_77, Option.map_none]
  | succ n ih =>
    intros
    simp only [f_X12_stateOf_77, g_X12_stateOf_77, rhck, ryM_1, ryM_2, ryM_3, ry_si, ry_sl, if_true, ry_ck, Option.map_some, Option.map_none, ry_ite, ry_bm, ry_mb, Nat.add_assoc, Nat.reduceAdd, Option.some_bind, Option.bind_some, ssk_102 hS, ssk_129 hS, ssl_129 hS, ssr_102_40 hS, e_X12_railMany hS, e_X12_stateOf_104 hS ih, ih]
set_option maxHeartbeats 400000 in
set_option maxRecDepth 100000 in
theorem e_X12_stateOf_75 {Γ : rhG} {R : Nat → Nat → Nat} (hS : ShS Γ R) {s : ryS} : ∀ (v2 : Int32), f_X12_stateOf_75 Γ (ryM s R) 102 v2 = g_X12_stateOf_75 s v2 := by
  intros
  simp only [f_X12_stateOf_75, g_X12_stateOf_75, rhck, ryM_1, ryM_2, ryM_3, ry_si, ry_sl, if_true, ry_ck, Option.map_some, Option.map_none, ry_ite, ry_bm, ry_mb, Nat.add_assoc, Nat.reduceAdd, Option.some_bind, Option.bind_some, e_X12_stateOf_77 hS]
set_option maxHeartbeats 400000 in
set_option maxRecDepth 100000 in
theorem e_X12_stateOf {Γ : rhG} {R : Nat → Nat → Nat} (hS : ShS Γ R) {s : ryS} : f_X12_stateOf Γ (ryM s R) 102 = g_X12_stateOf s := by
  intros
  simp only [f_X12_stateOf, g_X12_stateOf, rhck, ryM_1, ryM_2, ryM_3, ry_si, ry_sl, if_true, ry_ck, Option.map_some, Option.map_none, ry_ite, ry_bm, ry_mb, Nat.add_assoc, Nat.reduceAdd, Option.some_bind, Option.bind_some, ssk_102 hS, e_X12_houseMany hS, e_X12_stateOf_9 hS (e_X12_stateOf_75 hS), e_X12_stateOf_75 hS]
def g_X12_begins_2 (k21 : ryS → Option (ryS)) : Nat → ryS → Int32 → Option (ryS)
  | 0, _, _ => none
  | n + 1, s, v1 =>
    if v1 < 246960 then
      (rhck (0 ≤ (v1).toInt ∧ (v1).toInt < (246960 : Nat)) <|
      let s1 := rysi s 139 (v1 : Int32).toNatClampNeg (((-1)))
      let x2 : Int32 := v1 + 1
      g_X12_begins_2 k21 n s1 x2)
    else
      k21 s
def g_X12_begins_21 (s : ryS) : Option (ryS) :=
    (g_X12_layNow s).bind fun r3 =>
    (g_X12_stateOf r3).bind fun r4 =>
    rhck (0 ≤ (r4).toInt ∧ (r4).toInt < (246960 : Nat)) <|
    let s5 := rysi r3 139 (r4 : Int32).toNatClampNeg 0
    rhck (0 ≤ (r4).toInt ∧ (r4).toInt < (246960 : Nat)) <|
    let s6 := rysi s5 138 (r4 : Int32).toNatClampNeg (((-1)))
    rhck (0 ≤ (0 : Int32).toInt ∧ (0 : Int32).toInt < (61000 : Nat)) <|
    let s7 := rysi s6 141 (0 : Int32).toNatClampNeg r4
    let s8 := rysi s7 102 60 1
    some s8
def g_X12_begins (s : ryS) : Option (ryS) :=
    g_X12_begins_2 (g_X12_begins_21) rhFU s 0
set_option maxHeartbeats 400000 in
set_option maxRecDepth 100000 in
theorem e_X12_begins_2 {Γ : rhG} {R : Nat → Nat → Nat} (hS : ShS Γ R) {f21 : rhM → Nat → Option (rhM)} {k21 : ryS → Option (ryS)} (hk21 : ∀ (s : ryS), f21 (ryM s R) 102 = Option.map (fun s => ryM s R) (k21 s)) : ∀ (n : Nat) (s : ryS) (v1 : Int32), f_X12_begins_2 f21 Γ n (ryM s R) 102 v1 = Option.map (fun s => ryM s R) (g_X12_begins_2 k21 n s v1) := by
  intro n
  induction n with
  | zero => intros; simp only [f_X12_begins_2, g_X12_begins_2, Option.map_none]
  | succ n ih =>
    intros
    simp only [f_X12_begins_2, g_X12_begins_2, rhck, ryM_1, ryM_2, ryM_3, ry_si, ry_sl, if_true, ry_ck, Option.map_some, Option.map_none, ry_ite, ry_bm, ry_mb, Nat.add_assoc, Nat.reduceAdd, Option.some_bind, Option.bind_some, ssk_102 hS, ssk_139 hS, ssl_139 hS, ssr_102_56 hS, hk21, ih]
set_option maxHeartbeats 400000 in
set_option maxRecDepth 100000 in
theorem e_X12_begins_21 {Γ : rhG} {R : Nat → Nat → Nat} (hS : ShS Γ R) : ∀ (s : ryS), f_X12_begins_21 Γ (ryM s R) 102 = Option.map (fun s => ryM s R) (g_X12_begins_21 s) := by
  intros
  simp only [f_X12_begins_21, g_X12_begins_21, rhck, ryM_1, ryM_2, ryM_3, ry_si, ry_sl, if_true, ry_ck, Option.map_some, Option.map_none, ry_ite, ry_bm, ry_mb, Nat.add_assoc, Nat.reduceAdd, Option.some_bind, Option.bind_some, ssk_102 hS, ssk_138 hS, ssk_139 hS, ssk_141 hS, ssl_138 hS, ssl_139 hS, ssl_141 hS, ssr_102_55 hS, ssr_102_56 hS, ssr_102_58 hS, e_X12_layNow hS, e_X12_stateOf hS]
set_option maxHeartbeats 400000 in
set_option maxRecDepth 100000 in
theorem e_X12_begins {Γ : rhG} {R : Nat → Nat → Nat} (hS : ShS Γ R) : ∀ (s : ryS), f_X12_begins Γ (ryM s R) 102 = Option.map (fun s => ryM s R) (g_X12_begins s) := by
  intros
  simp only [f_X12_begins, g_X12_begins, rhck, ryM_1, ryM_2, ryM_3, ry_si, ry_sl, if_true, ry_ck, Option.map_some, Option.map_none, ry_ite, ry_bm, ry_mb, Nat.add_assoc, Nat.reduceAdd, Option.some_bind, Option.bind_some, e_X12_begins_2 hS (e_X12_begins_21 hS), e_X12_begins_21 hS]
def g_X12_emit (s : ryS) (v1 : Int32) (v2 : Int32) : Option (ryS) :=
    rhck (0 ≤ (s.1 102 36).toInt ∧ (s.1 102 36).toInt < (1000 : Nat)) <|
    let s1 := rysi s 123 (s.1 102 36 : Int32).toNatClampNeg v1
    rhck (0 ≤ (s1.1 102 36).toInt ∧ (s1.1 102 36).toInt < (1000 : Nat)) <|
    let s2 := rysi s1 124 (s1.1 102 36 : Int32).toNatClampNeg v2
    let s3 := rysi s2 102 36 ((s2.1 102 36) + 1)
    some s3
set_option maxHeartbeats 400000 in
set_option maxRecDepth 100000 in
theorem e_X12_emit {Γ : rhG} {R : Nat → Nat → Nat} (hS : ShS Γ R) : ∀ (s : ryS) (v1 : Int32) (v2 : Int32), f_X12_emit Γ (ryM s R) 102 v1 v2 = Option.map (fun s => ryM s R) (g_X12_emit s v1 v2) := by
  intros
  simp only [f_X12_emit, g_X12_emit, rhck, ryM_1, ryM_2, ryM_3, ry_si, ry_sl, if_true, ry_ck, Option.map_some, Option.map_none, ry_ite, ry_bm, ry_mb, Nat.add_assoc, Nat.reduceAdd, Option.some_bind, Option.bind_some, ssk_102 hS, ssk_123 hS, ssk_124 hS, ssl_123 hS, ssl_124 hS, ssr_102_29 hS, ssr_102_30 hS]
def g_X12_isCompared_28 (k7 : Int32 → Option (Int32)) (s : ryS) (v1 : Int32) : Option (Int32) :=
    let x2 : Int32 := v1 + (-1)
    k7 x2
def g_X12_isCompared_7 (k34 : Int32 → Option (Int32)) (s : ryS) : Nat → Int32 → Option (Int32)
  | 0, _ => none
  | n + 1, v1 =>
    rhck (0 ≤ (v1).toInt ∧ (v1).toInt < (90 : Nat)) <|
    if (s.1 125 v1.toNatClampNeg) = 5 then
      (g_X12_isCompared_28 (g_X12_isCompared_7 k34 s n) s v1)
    else
      if (s.1 125 v1.toNatClampNeg) = 6 then
        (g_X12_isCompared_28 (g_X12_isCompared_7 k34 s n) s v1)
      else
        k34 v1
def g_X12_isCompared_34 (s : ryS) (v1 : Int32) : Option (Int32) :=
    rhck (0 ≤ (v1).toInt ∧ (v1).toInt < (90 : Nat)) <|
    if (s.1 125 v1.toNatClampNeg) = 4 then
      (some 1)
    else
      some 0
def g_X12_isCompared (s : ryS) : Option (Int32) :=
    let x1 := (s.1 102 38) - 1
    g_X12_isCompared_7 (g_X12_isCompared_34 s) s rhFU x1
set_option maxHeartbeats 400000 in
set_option maxRecDepth 100000 in
theorem e_X12_isCompared_28 {Γ : rhG} {R : Nat → Nat → Nat} (hS : ShS Γ R) {f7 : Nat → Int32 → Option (Int32)} {k7 : Int32 → Option (Int32)} (hk7 : ∀ (v1 : Int32), f7 102 v1 = k7 v1) {s : ryS} : ∀ (v1 : Int32), f_X12_isCompared_28 f7 Γ (ryM s R) 102 v1 = g_X12_isCompared_28 k7 s v1 := by
  intros
  simp only [f_X12_isCompared_28, g_X12_isCompared_28, rhck, ryM_1, ryM_2, ryM_3, ry_si, ry_sl, if_true, ry_ck, Option.map_some, Option.map_none, ry_ite, ry_bm, ry_mb, Nat.add_assoc, Nat.reduceAdd, Option.some_bind, Option.bind_some, hk7]
set_option maxHeartbeats 400000 in
set_option maxRecDepth 100000 in
theorem e_X12_isCompared_7 {Γ : rhG} {R : Nat → Nat → Nat} (hS : ShS Γ R) {f34 : Nat → Int32 → Option (Int32)} {k34 : Int32 → Option (Int32)} (hk34 : ∀ (v1 : Int32), f34 102 v1 = k34 v1) {s : ryS} : ∀ (n : Nat) (v1 : Int32), f_X12_isCompared_7 f34 Γ (ryM s R) n 102 v1 = g_X12_isCompared_7 k34 s n v1 := by
  intro n
  induction n with
  | zero => intros; simp only [f_X12_isCompared_7, g_X12_isCompared_7, Option.map_none]
  | succ n ih =>
    intros
    simp only [f_X12_isCompared_7, g_X12_isCompared_7, rhck, ryM_1, ryM_2, ryM_3, ry_si, ry_sl, if_true, ry_ck, Option.map_some, Option.map_none, ry_ite, ry_bm, ry_mb, Nat.add_assoc, Nat.reduceAdd, Option.some_bind, Option.bind_some, ssk_102 hS, ssk_125 hS, ssl_125 hS, ssr_102_31 hS, hk34, e_X12_isCompared_28 hS ih, ih]
set_option maxHeartbeats 400000 in
set_option maxRecDepth 100000 in
theorem e_X12_isCompared_34 {Γ : rhG} {R : Nat → Nat → Nat} (hS : ShS Γ R) {s : ryS} : ∀ (v1 : Int32), f_X12_isCompared_34 Γ (ryM s R) 102 v1 = g_X12_isCompared_34 s v1 := by
  intros
  simp only [f_X12_isCompared_34, g_X12_isCompared_34, rhck, ryM_1, ryM_2, ryM_3, ry_si, ry_sl, if_true, ry_ck, Option.map_some, Option.map_none, ry_ite, ry_bm, ry_mb, Nat.add_assoc, Nat.reduceAdd, Option.some_bind, Option.bind_some, ssk_102 hS, ssk_125 hS, ssl_125 hS, ssr_102_31 hS]
set_option maxHeartbeats 400000 in
set_option maxRecDepth 100000 in
theorem e_X12_isCompared {Γ : rhG} {R : Nat → Nat → Nat} (hS : ShS Γ R) {s : ryS} : f_X12_isCompared Γ (ryM s R) 102 = g_X12_isCompared s := by
  intros
  simp only [f_X12_isCompared, g_X12_isCompared, rhck, ryM_1, ryM_2, ryM_3, ry_si, ry_sl, if_true, ry_ck, Option.map_some, Option.map_none, ry_ite, ry_bm, ry_mb, Nat.add_assoc, Nat.reduceAdd, Option.some_bind, Option.bind_some, ssk_102 hS, e_X12_isCompared_7 hS (e_X12_isCompared_34 hS), e_X12_isCompared_34 hS]
def g_X12_pushE (s : ryS) (v1 : Int32) (v2 : Int32) : Option (ryS) :=
    rhck (0 ≤ (s.1 102 38).toInt ∧ (s.1 102 38).toInt < (90 : Nat)) <|
    let s1 := rysi s 125 (s.1 102 38 : Int32).toNatClampNeg v1
    rhck (0 ≤ (s1.1 102 38).toInt ∧ (s1.1 102 38).toInt < (90 : Nat)) <|
    let s2 := rysi s1 126 (s1.1 102 38 : Int32).toNatClampNeg v2
    let s3 := rysi s2 102 38 ((s2.1 102 38) + 1)
    some s3
set_option maxHeartbeats 400000 in
set_option maxRecDepth 100000 in
theorem e_X12_pushE {Γ : rhG} {R : Nat → Nat → Nat} (hS : ShS Γ R) : ∀ (s : ryS) (v1 : Int32) (v2 : Int32), f_X12_pushE Γ (ryM s R) 102 v1 v2 = Option.map (fun s => ryM s R) (g_X12_pushE s v1 v2) := by
  intros
  simp only [f_X12_pushE, g_X12_pushE, rhck, ryM_1, ryM_2, ryM_3, ry_si, ry_sl, if_true, ry_ck, Option.map_some, Option.map_none, ry_ite, ry_bm, ry_mb, Nat.add_assoc, Nat.reduceAdd, Option.some_bind, Option.bind_some, ssk_102 hS, ssk_125 hS, ssk_126 hS, ssl_125 hS, ssl_126 hS, ssr_102_31 hS, ssr_102_32 hS]
def g_X12_stands (s : ryS) (v1 : Int32) : Option (Int32) :=
    if (s.1 102 8) = 5 then
      ((g_X12_sign s (s.1 102 6)).bind fun r1 =>
      if r1 = v1 then
        (some 1)
      else
        some 0)
    else
      some 0
set_option maxHeartbeats 400000 in
set_option maxRecDepth 100000 in
theorem e_X12_stands {Γ : rhG} {R : Nat → Nat → Nat} (hS : ShS Γ R) {s : ryS} : ∀ (v1 : Int32), f_X12_stands Γ (ryM s R) 102 v1 = g_X12_stands s v1 := by
  intros
  simp only [f_X12_stands, g_X12_stands, rhck, ryM_1, ryM_2, ryM_3, ry_si, ry_sl, if_true, ry_ck, Option.map_some, Option.map_none, ry_ite, ry_bm, ry_mb, Nat.add_assoc, Nat.reduceAdd, Option.some_bind, Option.bind_some, ssk_102 hS, e_X12_sign hS]
def g_X12_rankHere (s : ryS) : Option (Int32) :=
    (g_X12_isWord s ((6385252 : Int64))).bind fun r1 =>
    if r1 = 0 then
      ((g_X12_isWord s ((28530 : Int64))).bind fun r2 =>
      if r2 = 0 then
        ((g_X12_stands s (60 : Int32)).bind fun r3 =>
        if r3 = 0 then
          ((g_X12_stands s (62 : Int32)).bind fun r4 =>
          if r4 = 0 then
            ((g_X12_stands s (61 : Int32)).bind fun r5 =>
            if r5 = 0 then
              ((g_X12_stands s (43 : Int32)).bind fun r6 =>
              if r6 = 0 then
                ((g_X12_stands s (45 : Int32)).bind fun r7 =>
                if r7 = 0 then
                  ((g_X12_stands s (42 : Int32)).bind fun r8 =>
                  if r8 = 0 then
                    ((g_X12_stands s (47 : Int32)).bind fun r9 =>
                    if r9 = 0 then
                      (some 0)
                    else
                      some 6)
                  else
                    some 6)
                else
                  some 5)
              else
                some 5)
            else
              some 4)
          else
            some 4)
        else
          some 4)
      else
        some 1)
    else
      some 2
set_option maxHeartbeats 400000 in
set_option maxRecDepth 100000 in
theorem e_X12_rankHere {Γ : rhG} {R : Nat → Nat → Nat} (hS : ShS Γ R) {s : ryS} : f_X12_rankHere Γ (ryM s R) 102 = g_X12_rankHere s := by
  intros
  simp only [f_X12_rankHere, g_X12_rankHere, rhck, ryM_1, ryM_2, ryM_3, ry_si, ry_sl, if_true, ry_ck, Option.map_some, Option.map_none, ry_ite, ry_bm, ry_mb, Nat.add_assoc, Nat.reduceAdd, Option.some_bind, Option.bind_some, ssk_102 hS, e_X12_isWord hS, e_X12_isWord hS, e_X12_stands hS, e_X12_stands hS, e_X12_stands hS, e_X12_stands hS, e_X12_stands hS, e_X12_stands hS, e_X12_stands hS]
def g_X12_behindUnit_87 (k23 : ryS → Int32 → Option (Int32 × ryS)) (s : ryS) (v1 : Int32) : Option (Int32 × ryS) :=
    rhck (0 ≤ (s.1 102 38).toInt ∧ (s.1 102 38).toInt < (90 : Nat)) <|
    (g_X12_emit s (s.1 126 (s.1 102 38).toNatClampNeg) (0 : Int32)).bind fun r5 =>
    k23 r5 v1
def g_X12_behindUnit_23 (k104 : ryS → Int32 → Option (Int32 × ryS)) : Nat → ryS → Int32 → Option (Int32 × ryS)
  | 0, _, _ => none
  | n + 1, s, v1 =>
    rhck (0 ≤ ((s.1 102 38) - 1).toInt ∧ ((s.1 102 38) - 1).toInt < (90 : Nat)) <|
    if 6 < (s.1 125 ((s.1 102 38) - 1).toNatClampNeg) then
      (k104 s v1)
    else
      if (s.1 125 ((s.1 102 38) - 1).toNatClampNeg) < v1 then
        (k104 s v1)
      else
        let s3 := rysi s 102 38 ((s.1 102 38) - 1)
        rhck (0 ≤ (s3.1 102 38).toInt ∧ (s3.1 102 38).toInt < (90 : Nat)) <|
        if (s3.1 125 (s3.1 102 38).toNatClampNeg) = 3 then
          (let s4 := rysi s3 102 37 ((s3.1 102 37) - 1)
          g_X12_behindUnit_87 (g_X12_behindUnit_23 k104 n) s4 v1)
        else
          g_X12_behindUnit_87 (g_X12_behindUnit_23 k104 n) s3 v1
def g_X12_behindUnit_138 (s : ryS) (w1 : Int32) (w2 : Int32) : Option (Int32 × ryS) :=
    (g_X12_pushE s w1 w2).bind fun r6 =>
    (g_X12_goOn r6).bind fun r7 =>
    some ((1, r7))
def g_X12_behindUnit_104 (s : ryS) (v1 : Int32) : Option (Int32 × ryS) :=
    if 0 < v1 then
      (if v1 = 2 then
        (g_X12_behindUnit_138 s v1 38)
      else
        if v1 = 1 then
          (g_X12_behindUnit_138 s v1 124)
        else
          (g_X12_sign s (s.1 102 6)).bind fun r8 =>
          g_X12_behindUnit_138 s v1 r8)
    else
      let s9 := rysi s 102 38 ((s.1 102 38) - 1)
      rhck (0 ≤ (s9.1 102 38).toInt ∧ (s9.1 102 38).toInt < (90 : Nat)) <|
      if (s9.1 125 (s9.1 102 38).toNatClampNeg) = 7 then
        (let s10 := rysi s9 102 37 ((s9.1 102 37) - 1)
        (g_X12_stands s10 (41 : Int32)).bind fun r11 =>
        (g_X12_must s10 r11).bind fun r12 =>
        some ((0, r12)))
      else
        some ((0, s9))
def g_X12_behindUnit (s : ryS) : Option (Int32 × ryS) :=
    (g_X12_rankHere s).bind fun r1 =>
    if r1 = 4 then
      ((g_X12_isCompared s).bind fun r2 =>
      if r2 = 0 then
        (g_X12_behindUnit_23 (g_X12_behindUnit_104) rhFU s r1)
      else
        (g_X12_misplaced s).bind fun r13 =>
        some ((1, r13)))
    else
      g_X12_behindUnit_23 (g_X12_behindUnit_104) rhFU s r1
set_option maxHeartbeats 400000 in
set_option maxRecDepth 100000 in
theorem e_X12_behindUnit_87 {Γ : rhG} {R : Nat → Nat → Nat} (hS : ShS Γ R) {f23 : rhM → Nat → Int32 → Option (Int32 × rhM)} {k23 : ryS → Int32 → Option (Int32 × ryS)} (hk23 : ∀ (s : ryS) (v1 : Int32), f23 (ryM s R) 102 v1 = Option.map (fun q => (q.1, ryM q.2 R)) (k23 s v1)) : ∀ (s : ryS) (v1 : Int32), f_X12_behindUnit_87 f23 Γ (ryM s R) 102 v1 = Option.map (fun q => (q.1, ryM q.2 R)) (g_X12_behindUnit_87 k23 s v1) := by
  intros
  simp only [f_X12_behindUnit_87, g_X12_behindUnit_87, rhck, ryM_1, ryM_2, ryM_3, ry_si, ry_sl, if_true, ry_ck, Option.map_some, Option.map_none, ry_ite, ry_bm, ry_mb, Nat.add_assoc, Nat.reduceAdd, Option.some_bind, Option.bind_some, ssk_102 hS, ssk_126 hS, ssl_126 hS, ssr_102_32 hS, e_X12_emit hS, hk23]
set_option maxHeartbeats 400000 in
set_option maxRecDepth 100000 in
theorem e_X12_behindUnit_23 {Γ : rhG} {R : Nat → Nat → Nat} (hS : ShS Γ R) {f104 : rhM → Nat → Int32 → Option (Int32 × rhM)} {k104 : ryS → Int32 → Option (Int32 × ryS)} (hk104 : ∀ (s : ryS) (v1 : Int32), f104 (ryM s R) 102 v1 = Option.map (fun q => (q.1, ryM q.2 R)) (k104 s v1)) : ∀ (n : Nat) (s : ryS) (v1 : Int32), f_X12_behindUnit_23 f104 Γ n (ryM s R) 102 v1 = Option.map (fun q => (q.1, ryM q.2 R)) (g_X12_behindUnit_23 k104 n s v1) := by
  intro n
  induction n with
  | zero => intros; simp only [f_X12_behindUnit_23, g_X12_behindUnit_23, Option.map_none]
  | succ n ih =>
    intros
    simp only [f_X12_behindUnit_23, g_X12_behindUnit_23, rhck, ryM_1, ryM_2, ryM_3, ry_si, ry_sl, if_true, ry_ck, Option.map_some, Option.map_none, ry_ite, ry_bm, ry_mb, Nat.add_assoc, Nat.reduceAdd, Option.some_bind, Option.bind_some, ssk_102 hS, ssk_125 hS, ssl_125 hS, ssr_102_31 hS, hk104, e_X12_behindUnit_87 hS ih, ih]
set_option maxHeartbeats 400000 in
set_option maxRecDepth 100000 in
theorem e_X12_behindUnit_138 {Γ : rhG} {R : Nat → Nat → Nat} (hS : ShS Γ R) : ∀ (s : ryS) (w1 : Int32) (w2 : Int32), f_X12_behindUnit_138 Γ (ryM s R) 102 102 w1 w2 = Option.map (fun q => (q.1, ryM q.2 R)) (g_X12_behindUnit_138 s w1 w2) := by
  intros
  simp only [f_X12_behindUnit_138, g_X12_behindUnit_138, rhck, ryM_1, ryM_2, ryM_3, ry_si, ry_sl, if_true, ry_ck, Option.map_some, Option.map_none, ry_ite, ry_bm, ry_mb, Nat.add_assoc, Nat.reduceAdd, Option.some_bind, Option.bind_some, ssk_102 hS, e_X12_pushE hS, e_X12_goOn hS]
set_option maxHeartbeats 400000 in
set_option maxRecDepth 100000 in
theorem e_X12_behindUnit_104 {Γ : rhG} {R : Nat → Nat → Nat} (hS : ShS Γ R) : ∀ (s : ryS) (v1 : Int32), f_X12_behindUnit_104 Γ (ryM s R) 102 v1 = Option.map (fun q => (q.1, ryM q.2 R)) (g_X12_behindUnit_104 s v1) := by
  intros
  simp only [f_X12_behindUnit_104, g_X12_behindUnit_104, rhck, ryM_1, ryM_2, ryM_3, ry_si, ry_sl, if_true, ry_ck, Option.map_some, Option.map_none, ry_ite, ry_bm, ry_mb, Nat.add_assoc, Nat.reduceAdd, Option.some_bind, Option.bind_some, ssk_102 hS, ssk_125 hS, ssl_125 hS, ssr_102_31 hS, e_X12_sign hS, e_X12_stands hS, e_X12_must hS, e_X12_behindUnit_138 hS]
set_option maxHeartbeats 400000 in
set_option maxRecDepth 100000 in
theorem e_X12_behindUnit {Γ : rhG} {R : Nat → Nat → Nat} (hS : ShS Γ R) : ∀ (s : ryS), f_X12_behindUnit Γ (ryM s R) 102 = Option.map (fun q => (q.1, ryM q.2 R)) (g_X12_behindUnit s) := by
  intros
  simp only [f_X12_behindUnit, g_X12_behindUnit, rhck, ryM_1, ryM_2, ryM_3, ry_si, ry_sl, if_true, ry_ck, Option.map_some, Option.map_none, ry_ite, ry_bm, ry_mb, Nat.add_assoc, Nat.reduceAdd, Option.some_bind, Option.bind_some, ssk_102 hS, e_X12_rankHere hS, e_X12_isCompared hS, e_X12_misplaced hS, e_X12_behindUnit_23 hS (e_X12_behindUnit_104 hS), e_X12_behindUnit_104 hS]
def g_X12_isHouse (s : ryS) (v1 : Int32) : Option (Int32) :=
    (g_X12_houseMany s).bind fun r1 =>
    (g_X12_isIn s v1 (0 : Int32) (r1 - 1)).bind fun r2 =>
    rhck (r2 = 0 ∨ r2 = 1) <|
    some r2
set_option maxHeartbeats 400000 in
set_option maxRecDepth 100000 in
theorem e_X12_isHouse {Γ : rhG} {R : Nat → Nat → Nat} (hS : ShS Γ R) {s : ryS} : ∀ (v1 : Int32), f_X12_isHouse Γ (ryM s R) 102 v1 = g_X12_isHouse s v1 := by
  intros
  simp only [f_X12_isHouse, g_X12_isHouse, rhck, ryM_1, ryM_2, ryM_3, ry_si, ry_sl, if_true, ry_ck, Option.map_some, Option.map_none, ry_ite, ry_bm, ry_mb, Nat.add_assoc, Nat.reduceAdd, Option.some_bind, Option.bind_some, ssk_102 hS, e_X12_houseMany hS, e_X12_isIn]
def g_X12_railOf_4 (k20 : Int32 → Int32 → Option (Int32)) (s : ryS) : Nat → Int32 → Int32 → Int32 → Option (Int32)
  | 0, _, _, _ => none
  | n + 1, v1, v2, v3 =>
    rhck (0 ≤ (v2).toInt ∧ (v2).toInt < (8 : Nat)) <|
    if (s.1 128 v2.toNatClampNeg) = v1 then
      (k20 v2 v3)
    else
      let x1 : Int32 := v2 + 1
      g_X12_railOf_4 k20 s n v1 x1 v3
def g_X12_railOf_20 (s : ryS) : Nat → Int32 → Int32 → Option (Int32)
  | 0, _, _ => none
  | n + 1, v2, v3 =>
    rhck (0 ≤ (v3).toInt ∧ (v3).toInt < (6 : Nat)) <|
    if v2 < (s.1 129 v3.toNatClampNeg) then
      (some v3)
    else
      let x2 : Int32 := v3 + 1
      g_X12_railOf_20 s n v2 x2
def g_X12_railOf (s : ryS) (v1 : Int32) : Option (Int32) :=
    g_X12_railOf_4 (g_X12_railOf_20 s rhFU) s rhFU v1 0 0
set_option maxHeartbeats 400000 in
set_option maxRecDepth 100000 in
theorem e_X12_railOf_4 {Γ : rhG} {R : Nat → Nat → Nat} (hS : ShS Γ R) {f20 : Nat → Int32 → Int32 → Option (Int32)} {k20 : Int32 → Int32 → Option (Int32)} (hk20 : ∀ (v2 : Int32) (v3 : Int32), f20 102 v2 v3 = k20 v2 v3) {s : ryS} : ∀ (n : Nat) (v1 : Int32) (v2 : Int32) (v3 : Int32), f_X12_railOf_4 f20 Γ (ryM s R) n 102 v1 v2 v3 = g_X12_railOf_4 k20 s n v1 v2 v3 := by
  intro n
  induction n with
  | zero => intros; simp only [f_X12_railOf_4, g_X12_railOf_4, Option.map_none]
  | succ n ih =>
    intros
    simp only [f_X12_railOf_4, g_X12_railOf_4, rhck, ryM_1, ryM_2, ryM_3, ry_si, ry_sl, if_true, ry_ck, Option.map_some, Option.map_none, ry_ite, ry_bm, ry_mb, Nat.add_assoc, Nat.reduceAdd, Option.some_bind, Option.bind_some, ssk_102 hS, ssk_128 hS, ssl_128 hS, ssr_102_39 hS, hk20, ih]
set_option maxHeartbeats 400000 in
set_option maxRecDepth 100000 in
theorem e_X12_railOf_20 {Γ : rhG} {R : Nat → Nat → Nat} (hS : ShS Γ R) {s : ryS} : ∀ (n : Nat) (v2 : Int32) (v3 : Int32), f_X12_railOf_20 Γ (ryM s R) n 102 v2 v3 = g_X12_railOf_20 s n v2 v3 := by
  intro n
  induction n with
  | zero => intros; simp only [f_X12_railOf_20, g_X12_railOf_20, Option.map_none]
  | succ n ih =>
    intros
    simp only [f_X12_railOf_20, g_X12_railOf_20, rhck, ryM_1, ryM_2, ryM_3, ry_si, ry_sl, if_true, ry_ck, Option.map_some, Option.map_none, ry_ite, ry_bm, ry_mb, Nat.add_assoc, Nat.reduceAdd, Option.some_bind, Option.bind_some, ssk_102 hS, ssk_129 hS, ssl_129 hS, ssr_102_40 hS, ih]
set_option maxHeartbeats 400000 in
set_option maxRecDepth 100000 in
theorem e_X12_railOf {Γ : rhG} {R : Nat → Nat → Nat} (hS : ShS Γ R) {s : ryS} : ∀ (v1 : Int32), f_X12_railOf Γ (ryM s R) 102 v1 = g_X12_railOf s v1 := by
  intros
  simp only [f_X12_railOf, g_X12_railOf, rhck, ryM_1, ryM_2, ryM_3, ry_si, ry_sl, if_true, ry_ck, Option.map_some, Option.map_none, ry_ite, ry_bm, ry_mb, Nat.add_assoc, Nat.reduceAdd, Option.some_bind, Option.bind_some, e_X12_railOf_4 hS (e_X12_railOf_20 hS rhFU), e_X12_railOf_20 hS]
def g_X12_isSo_87 (k2 : Int32 → Int32 → Int32 → Option (Int32)) (s : ryS) (v1 : Int32) (v2 : Int32) (v3 : Int32) : Option (Int32) :=
    let x1 : Int32 := v3 + 1
    k2 v1 v2 x1
def g_X12_isSo_76 (k87 : Int32 → Int32 → Int32 → Option (Int32)) (s : ryS) (v1 : Int32) (v2 : Int32) (v3 : Int32) (w0 : Int32) : Option (Int32) :=
    rhck (0 ≤ (v3).toInt ∧ (v3).toInt < (20 : Nat)) <|
    if w0 = (s.1 158 v3.toNatClampNeg) then
      (k87 v1 v2 v3)
    else
      some 0
def g_X12_isSo_52 (k87 : Int32 → Int32 → Int32 → Option (Int32)) (s : ryS) (v1 : Int32) (v2 : Int32) (v3 : Int32) : Option (Int32) :=
    rhck (0 ≤ (v3).toInt ∧ (v3).toInt < (20 : Nat)) <|
    (g_X12_railOf s (s.1 150 v3.toNatClampNeg)).bind fun r2 =>
    rhck (0 ≤ (v3).toInt ∧ (v3).toInt < (20 : Nat)) <|
    if r2 = (s.1 151 v3.toNatClampNeg) then
      (g_X12_isSo_76 k87 s v1 v2 v3 1)
    else
      g_X12_isSo_76 k87 s v1 v2 v3 0
def g_X12_isSo_2 (s : ryS) : Nat → Int32 → Int32 → Int32 → Option (Int32)
  | 0, _, _, _ => none
  | n + 1, v1, v2, v3 =>
    if v3 < (s.1 102 82) then
      (rhck (0 ≤ (v3).toInt ∧ (v3).toInt < (20 : Nat)) <|
      if (s.1 149 v3.toNatClampNeg) = v1 then
        (rhck (0 ≤ (v3).toInt ∧ (v3).toInt < (20 : Nat)) <|
        if v2 < (s.1 152 v3.toNatClampNeg) then
          (g_X12_isSo_87 (g_X12_isSo_2 s n) s v1 v2 v3)
        else
          rhck (0 ≤ (v3).toInt ∧ (v3).toInt < (20 : Nat)) <|
          if (s.1 153 v3.toNatClampNeg) < 0 then
            (g_X12_isSo_52 (g_X12_isSo_87 (g_X12_isSo_2 s n) s) s v1 v2 v3)
          else
            if v2 < (s.1 153 v3.toNatClampNeg) then
              (g_X12_isSo_52 (g_X12_isSo_87 (g_X12_isSo_2 s n) s) s v1 v2 v3)
            else
              g_X12_isSo_87 (g_X12_isSo_2 s n) s v1 v2 v3)
      else
        g_X12_isSo_87 (g_X12_isSo_2 s n) s v1 v2 v3)
    else
      some 1
def g_X12_isSo (s : ryS) (v1 : Int32) (v2 : Int32) : Option (Int32) :=
    g_X12_isSo_2 s rhFU v1 v2 0
set_option maxHeartbeats 400000 in
set_option maxRecDepth 100000 in
theorem e_X12_isSo_87 {Γ : rhG} {R : Nat → Nat → Nat} (hS : ShS Γ R) {f2 : Nat → Int32 → Int32 → Int32 → Option (Int32)} {k2 : Int32 → Int32 → Int32 → Option (Int32)} (hk2 : ∀ (v1 : Int32) (v2 : Int32) (v3 : Int32), f2 102 v1 v2 v3 = k2 v1 v2 v3) {s : ryS} : ∀ (v1 : Int32) (v2 : Int32) (v3 : Int32), f_X12_isSo_87 f2 Γ (ryM s R) 102 v1 v2 v3 = g_X12_isSo_87 k2 s v1 v2 v3 := by
  intros
  simp only [f_X12_isSo_87, g_X12_isSo_87, rhck, ryM_1, ryM_2, ryM_3, ry_si, ry_sl, if_true, ry_ck, Option.map_some, Option.map_none, ry_ite, ry_bm, ry_mb, Nat.add_assoc, Nat.reduceAdd, Option.some_bind, Option.bind_some, hk2]
set_option maxHeartbeats 400000 in
set_option maxRecDepth 100000 in
theorem e_X12_isSo_76 {Γ : rhG} {R : Nat → Nat → Nat} (hS : ShS Γ R) {f87 : Nat → Int32 → Int32 → Int32 → Option (Int32)} {k87 : Int32 → Int32 → Int32 → Option (Int32)} (hk87 : ∀ (v1 : Int32) (v2 : Int32) (v3 : Int32), f87 102 v1 v2 v3 = k87 v1 v2 v3) {s : ryS} : ∀ (v1 : Int32) (v2 : Int32) (v3 : Int32) (w0 : Int32), f_X12_isSo_76 f87 Γ (ryM s R) 102 v1 v2 v3 w0 = g_X12_isSo_76 k87 s v1 v2 v3 w0 := by
  intros
  simp only [f_X12_isSo_76, g_X12_isSo_76, rhck, ryM_1, ryM_2, ryM_3, ry_si, ry_sl, if_true, ry_ck, Option.map_some, Option.map_none, ry_ite, ry_bm, ry_mb, Nat.add_assoc, Nat.reduceAdd, Option.some_bind, Option.bind_some, ssk_102 hS, ssk_158 hS, ssl_158 hS, ssr_102_81 hS, hk87]
set_option maxHeartbeats 400000 in
set_option maxRecDepth 100000 in
theorem e_X12_isSo_52 {Γ : rhG} {R : Nat → Nat → Nat} (hS : ShS Γ R) {f87 : Nat → Int32 → Int32 → Int32 → Option (Int32)} {k87 : Int32 → Int32 → Int32 → Option (Int32)} (hk87 : ∀ (v1 : Int32) (v2 : Int32) (v3 : Int32), f87 102 v1 v2 v3 = k87 v1 v2 v3) {s : ryS} : ∀ (v1 : Int32) (v2 : Int32) (v3 : Int32), f_X12_isSo_52 f87 Γ (ryM s R) 102 v1 v2 v3 = g_X12_isSo_52 k87 s v1 v2 v3 := by
  intros
  simp only [f_X12_isSo_52, g_X12_isSo_52, rhck, ryM_1, ryM_2, ryM_3, ry_si, ry_sl, if_true, ry_ck, Option.map_some, Option.map_none, ry_ite, ry_bm, ry_mb, Nat.add_assoc, Nat.reduceAdd, Option.some_bind, Option.bind_some, ssk_102 hS, ssk_150 hS, ssk_151 hS, ssl_150 hS, ssl_151 hS, ssr_102_73 hS, ssr_102_74 hS, e_X12_railOf hS, hk87, e_X12_isSo_76 hS hk87]
set_option maxHeartbeats 400000 in
set_option maxRecDepth 100000 in
theorem e_X12_isSo_2 {Γ : rhG} {R : Nat → Nat → Nat} (hS : ShS Γ R) {s : ryS} : ∀ (n : Nat) (v1 : Int32) (v2 : Int32) (v3 : Int32), f_X12_isSo_2 Γ (ryM s R) n 102 v1 v2 v3 = g_X12_isSo_2 s n v1 v2 v3 := by
  intro n
  induction n with
  | zero => intros; simp only [f_X12_isSo_2, g_X12_isSo_2, Option.map_none]
  | succ n ih =>
    intros
    simp only [f_X12_isSo_2, g_X12_isSo_2, rhck, ryM_1, ryM_2, ryM_3, ry_si, ry_sl, if_true, ry_ck, Option.map_some, Option.map_none, ry_ite, ry_bm, ry_mb, Nat.add_assoc, Nat.reduceAdd, Option.some_bind, Option.bind_some, ssk_102 hS, ssk_149 hS, ssk_152 hS, ssk_153 hS, ssl_149 hS, ssl_152 hS, ssl_153 hS, ssr_102_72 hS, ssr_102_75 hS, ssr_102_76 hS, e_X12_isSo_87 hS ih, e_X12_isSo_52 hS (e_X12_isSo_87 hS ih), ih]
set_option maxHeartbeats 400000 in
set_option maxRecDepth 100000 in
theorem e_X12_isSo {Γ : rhG} {R : Nat → Nat → Nat} (hS : ShS Γ R) {s : ryS} : ∀ (v1 : Int32) (v2 : Int32), f_X12_isSo Γ (ryM s R) 102 v1 v2 = g_X12_isSo s v1 v2 := by
  intros
  simp only [f_X12_isSo, g_X12_isSo, rhck, ryM_1, ryM_2, ryM_3, ry_si, ry_sl, if_true, ry_ck, Option.map_some, Option.map_none, ry_ite, ry_bm, ry_mb, Nat.add_assoc, Nat.reduceAdd, Option.some_bind, Option.bind_some, e_X12_isSo_2 hS]
def g_X12_keepTried_2 (k31 : ryS → Int32 → Option (ryS)) : Nat → ryS → Int32 → Int32 → Option (ryS)
  | 0, _, _, _ => none
  | n + 1, s, v1, v2 =>
    if v2 < 8 then
      (rhck (0 ≤ (v2).toInt ∧ (v2).toInt < (8 : Nat)) <|
      rhck (0 ≤ ((8 * v1) + v2).toInt ∧ ((8 * v1) + v2).toInt < (32 : Nat)) <|
      let s1 := rysi s 155 ((8 * v1) + v2 : Int32).toNatClampNeg ((s.1 128 v2.toNatClampNeg))
      let x2 : Int32 := v2 + 1
      g_X12_keepTried_2 k31 n s1 v1 x2)
    else
      k31 s v1
def g_X12_keepTried_33 : Nat → ryS → Int32 → Int32 → Option (ryS)
  | 0, _, _, _ => none
  | n + 1, s, v1, v2 =>
    if v2 < 5 then
      (rhck (0 ≤ (v2).toInt ∧ (v2).toInt < (6 : Nat)) <|
      rhck (0 ≤ ((6 * v1) + v2).toInt ∧ ((6 * v1) + v2).toInt < (24 : Nat)) <|
      let s3 := rysi s 156 ((6 * v1) + v2 : Int32).toNatClampNeg ((s.1 129 v2.toNatClampNeg))
      let x4 : Int32 := v2 + 1
      g_X12_keepTried_33 n s3 v1 x4)
    else
      some s
def g_X12_keepTried_31 (s : ryS) (v1 : Int32) : Option (ryS) :=
    g_X12_keepTried_33 rhFU s v1 0
def g_X12_keepTried (s : ryS) (v1 : Int32) : Option (ryS) :=
    g_X12_keepTried_2 (g_X12_keepTried_31) rhFU s v1 0
set_option maxHeartbeats 400000 in
set_option maxRecDepth 100000 in
theorem e_X12_keepTried_2 {Γ : rhG} {R : Nat → Nat → Nat} (hS : ShS Γ R) {f31 : rhM → Nat → Int32 → Option (rhM)} {k31 : ryS → Int32 → Option (ryS)} (hk31 : ∀ (s : ryS) (v1 : Int32), f31 (ryM s R) 102 v1 = Option.map (fun s => ryM s R) (k31 s v1)) : ∀ (n : Nat) (s : ryS) (v1 : Int32) (v2 : Int32), f_X12_keepTried_2 f31 Γ n (ryM s R) 102 v1 v2 = Option.map (fun s => ryM s R) (g_X12_keepTried_2 k31 n s v1 v2) := by
  intro n
  induction n with
  | zero => intros; simp only [f_X12_keepTried_2, g_X12_keepTried_2, Option.map_none]
  | succ n ih =>
    intros
    simp only [f_X12_keepTried_2, g_X12_keepTried_2, rhck, ryM_1, ryM_2, ryM_3, ry_si, ry_sl, if_true, ry_ck, Option.map_some, Option.map_none, ry_ite, ry_bm, ry_mb, Nat.add_assoc, Nat.reduceAdd, Option.some_bind, Option.bind_some, ssk_102 hS, ssk_128 hS, ssk_155 hS, ssl_128 hS, ssl_155 hS, ssr_102_39 hS, ssr_102_78 hS, hk31, ih]
set_option maxHeartbeats 400000 in
set_option maxRecDepth 100000 in
theorem e_X12_keepTried_33 {Γ : rhG} {R : Nat → Nat → Nat} (hS : ShS Γ R) : ∀ (n : Nat) (s : ryS) (v1 : Int32) (v2 : Int32), f_X12_keepTried_33 Γ n (ryM s R) 102 v1 v2 = Option.map (fun s => ryM s R) (g_X12_keepTried_33 n s v1 v2) := by
  intro n
  induction n with
  | zero => intros; simp only [f_X12_keepTried_33, g_X12_keepTried_33, Option.map_none]
  | succ n ih =>
    intros
    simp only [f_X12_keepTried_33, g_X12_keepTried_33, rhck, ryM_1, ryM_2, ryM_3, ry_si, ry_sl, if_true, ry_ck, Option.map_some, Option.map_none, ry_ite, ry_bm, ry_mb, Nat.add_assoc, Nat.reduceAdd, Option.some_bind, Option.bind_some, ssk_102 hS, ssk_129 hS, ssk_156 hS, ssl_129 hS, ssl_156 hS, ssr_102_40 hS, ssr_102_79 hS, ih]
set_option maxHeartbeats 400000 in
set_option maxRecDepth 100000 in
theorem e_X12_keepTried_31 {Γ : rhG} {R : Nat → Nat → Nat} (hS : ShS Γ R) : ∀ (s : ryS) (v1 : Int32), f_X12_keepTried_31 Γ (ryM s R) 102 v1 = Option.map (fun s => ryM s R) (g_X12_keepTried_31 s v1) := by
  intros
  simp only [f_X12_keepTried_31, g_X12_keepTried_31, rhck, ryM_1, ryM_2, ryM_3, ry_si, ry_sl, if_true, ry_ck, Option.map_some, Option.map_none, ry_ite, ry_bm, ry_mb, Nat.add_assoc, Nat.reduceAdd, Option.some_bind, Option.bind_some, e_X12_keepTried_33 hS]
set_option maxHeartbeats 400000 in
set_option maxRecDepth 100000 in
theorem e_X12_keepTried {Γ : rhG} {R : Nat → Nat → Nat} (hS : ShS Γ R) : ∀ (s : ryS) (v1 : Int32), f_X12_keepTried Γ (ryM s R) 102 v1 = Option.map (fun s => ryM s R) (g_X12_keepTried s v1) := by
  intros
  simp only [f_X12_keepTried, g_X12_keepTried, rhck, ryM_1, ryM_2, ryM_3, ry_si, ry_sl, if_true, ry_ck, Option.map_some, Option.map_none, ry_ite, ry_bm, ry_mb, Nat.add_assoc, Nat.reduceAdd, Option.some_bind, Option.bind_some, e_X12_keepTried_2 hS (e_X12_keepTried_31 hS), e_X12_keepTried_31 hS]
def g_X12_meets_2 : Nat → ryS → Int32 → Option (Int32 × ryS)
  | 0, _, _ => none
  | n + 1, s, v1 =>
    (g_X12_houseMany s).bind fun r1 =>
    if v1 < r1 then
      (rhck (0 ≤ (v1).toInt ∧ (v1).toInt < (8 : Nat)) <|
      (g_X12_railOf s v1).bind fun r2 =>
      let s3 := rysi s 154 (v1 : Int32).toNatClampNeg (((s.1 154 v1.toNatClampNeg) ||| (1 <<< (r2 &&& 31))))
      let x4 : Int32 := v1 + 1
      g_X12_meets_2 n s3 x4)
    else
      some ((1, s))
def g_X12_meets (s : ryS) : Option (Int32 × ryS) :=
    g_X12_meets_2 rhFU s 0
set_option maxHeartbeats 400000 in
set_option maxRecDepth 100000 in
theorem e_X12_meets_2 {Γ : rhG} {R : Nat → Nat → Nat} (hS : ShS Γ R) : ∀ (n : Nat) (s : ryS) (v1 : Int32), f_X12_meets_2 Γ n (ryM s R) 102 v1 = Option.map (fun q => (q.1, ryM q.2 R)) (g_X12_meets_2 n s v1) := by
  intro n
  induction n with
  | zero => intros; simp only [f_X12_meets_2, g_X12_meets_2, Option.map_none]
  | succ n ih =>
    intros
    simp only [f_X12_meets_2, g_X12_meets_2, rhck, ryM_1, ryM_2, ryM_3, ry_si, ry_sl, if_true, ry_ck, Option.map_some, Option.map_none, ry_ite, ry_bm, ry_mb, Nat.add_assoc, Nat.reduceAdd, Option.some_bind, Option.bind_some, ssk_102 hS, ssk_154 hS, ssl_154 hS, ssr_102_77 hS, e_X12_houseMany hS, e_X12_railOf hS, ih]
set_option maxHeartbeats 400000 in
set_option maxRecDepth 100000 in
theorem e_X12_meets {Γ : rhG} {R : Nat → Nat → Nat} (hS : ShS Γ R) : ∀ (s : ryS), f_X12_meets Γ (ryM s R) 102 = Option.map (fun q => (q.1, ryM q.2 R)) (g_X12_meets s) := by
  intros
  simp only [f_X12_meets, g_X12_meets, rhck, ryM_1, ryM_2, ryM_3, ry_si, ry_sl, if_true, ry_ck, Option.map_some, Option.map_none, ry_ite, ry_bm, ry_mb, Nat.add_assoc, Nat.reduceAdd, Option.some_bind, Option.bind_some, e_X12_meets_2 hS]
def g_X12_moves_13 (k42 : ryS → Int32 → Int32 → Int32 → Int32 → Option (ryS)) : Nat → ryS → Int32 → Int32 → Int32 → Int32 → Int32 → Option (ryS)
  | 0, _, _, _, _, _, _ => none
  | n + 1, s, v1, v2, v3, v4, v5 =>
    if v5 < v2 then
      (rhck (0 ≤ (v4 + v5).toInt ∧ (v4 + v5).toInt < (8 : Nat)) <|
      rhck (0 ≤ (v5).toInt ∧ (v5).toInt < (8 : Nat)) <|
      let s2 := rysi s 130 (v5 : Int32).toNatClampNeg ((s.1 128 (v4 + v5).toNatClampNeg))
      let x3 : Int32 := v5 + 1
      g_X12_moves_13 k42 n s2 v1 v2 v3 v4 x3)
    else
      k42 s v1 v2 v3 v4
def g_X12_moves_51 (k86 : ryS → Int32 → Int32 → Int32 → Option (ryS)) : Nat → ryS → Int32 → Int32 → Int32 → Int32 → Option (ryS)
  | 0, _, _, _, _, _ => none
  | n + 1, s, v1, v2, v3, v5 =>
    rhck (0 ≤ (v3).toInt ∧ (v3).toInt < (6 : Nat)) <|
    if (v5 + v2) < (s.1 129 v3.toNatClampNeg) then
      (rhck (0 ≤ (v5 + v2).toInt ∧ (v5 + v2).toInt < (8 : Nat)) <|
      rhck (0 ≤ (v5).toInt ∧ (v5).toInt < (8 : Nat)) <|
      let s4 := rysi s 128 (v5 : Int32).toNatClampNeg ((s.1 128 (v5 + v2).toNatClampNeg))
      let x5 : Int32 := v5 + 1
      g_X12_moves_51 k86 n s4 v1 v2 v3 x5)
    else
      k86 s v1 v2 v3
def g_X12_moves_89 (k112 : ryS → Int32 → Int32 → Option (ryS)) : Nat → ryS → Int32 → Int32 → Int32 → Option (ryS)
  | 0, _, _, _, _ => none
  | n + 1, s, v2, v3, v5 =>
    if v5 < v3 then
      (rhck (0 ≤ (v5).toInt ∧ (v5).toInt < (6 : Nat)) <|
      let s6 := rysi s 129 (v5 : Int32).toNatClampNeg (((s.1 129 v5.toNatClampNeg) - v2))
      let x7 : Int32 := v5 + 1
      g_X12_moves_89 k112 n s6 v2 v3 x7)
    else
      k112 s v2 v3
def g_X12_moves_112 (k180 : ryS → Int32 → Int32 → Option (ryS)) (s : ryS) (v2 : Int32) (v3 : Int32) : Option (ryS) :=
    k180 s v2 v3
def g_X12_moves_86 (k180 : ryS → Int32 → Int32 → Option (ryS)) (s : ryS) (v1 : Int32) (v2 : Int32) (v3 : Int32) : Option (ryS) :=
    g_X12_moves_89 (g_X12_moves_112 k180) rhFU s v2 v3 v1
def g_X12_moves_183 : Nat → ryS → Int32 → Int32 → Int32 → Option (ryS)
  | 0, _, _, _, _ => none
  | n + 1, s, v2, v3, v5 =>
    if v5 < v2 then
      (rhck (0 ≤ (v3).toInt ∧ (v3).toInt < (6 : Nat)) <|
      rhck (0 ≤ (v5).toInt ∧ (v5).toInt < (8 : Nat)) <|
      rhck (0 ≤ (((s.1 129 v3.toNatClampNeg) - v2) + v5).toInt ∧ (((s.1 129 v3.toNatClampNeg) - v2) + v5).toInt < (8 : Nat)) <|
      let s8 := rysi s 128 (((s.1 129 v3.toNatClampNeg) - v2) + v5 : Int32).toNatClampNeg ((s.1 130 v5.toNatClampNeg))
      let x9 : Int32 := v5 + 1
      g_X12_moves_183 n s8 v2 v3 x9)
    else
      some s
def g_X12_moves_180 (s : ryS) (v2 : Int32) (v3 : Int32) : Option (ryS) :=
    g_X12_moves_183 rhFU s v2 v3 0
def g_X12_moves_121 (k154 : ryS → Int32 → Int32 → Int32 → Option (ryS)) : Nat → ryS → Int32 → Int32 → Int32 → Int32 → Option (ryS)
  | 0, _, _, _, _, _ => none
  | n + 1, s, v1, v2, v3, v5 =>
    rhck (0 ≤ (v3).toInt ∧ (v3).toInt < (6 : Nat)) <|
    if v5 < (s.1 129 v3.toNatClampNeg) then
      (k154 s v1 v2 v3)
    else
      rhck (0 ≤ (v5).toInt ∧ (v5).toInt < (8 : Nat)) <|
      rhck (0 ≤ (v5 + v2).toInt ∧ (v5 + v2).toInt < (8 : Nat)) <|
      let s11 := rysi s 128 (v5 + v2 : Int32).toNatClampNeg ((s.1 128 v5.toNatClampNeg))
      let x12 : Int32 := v5 + (-1)
      g_X12_moves_121 k154 n s11 v1 v2 v3 x12
def g_X12_moves_157 (k180 : ryS → Int32 → Int32 → Option (ryS)) : Nat → ryS → Int32 → Int32 → Int32 → Int32 → Option (ryS)
  | 0, _, _, _, _, _ => none
  | n + 1, s, v1, v2, v3, v5 =>
    if v5 < v1 then
      (rhck (0 ≤ (v5).toInt ∧ (v5).toInt < (6 : Nat)) <|
      let s13 := rysi s 129 (v5 : Int32).toNatClampNeg (((s.1 129 v5.toNatClampNeg) + v2))
      let x14 : Int32 := v5 + 1
      g_X12_moves_157 k180 n s13 v1 v2 v3 x14)
    else
      k180 s v2 v3
def g_X12_moves_154 (k180 : ryS → Int32 → Int32 → Option (ryS)) (s : ryS) (v1 : Int32) (v2 : Int32) (v3 : Int32) : Option (ryS) :=
    g_X12_moves_157 k180 rhFU s v1 v2 v3 v3
def g_X12_moves_42 (s : ryS) (v1 : Int32) (v2 : Int32) (v3 : Int32) (v4 : Int32) : Option (ryS) :=
    if v1 < v3 then
      (g_X12_moves_51 (g_X12_moves_86 (g_X12_moves_180)) rhFU s v1 v2 v3 v4)
    else
      let x10 := v4 - 1
      g_X12_moves_121 (g_X12_moves_154 (g_X12_moves_180)) rhFU s v1 v2 v3 x10
def g_X12_moves (s : ryS) (v1 : Int32) (v2 : Int32) (v3 : Int32) : Option (ryS) :=
    rhck (0 ≤ (v1).toInt ∧ (v1).toInt < (6 : Nat)) <|
    let x1 := (s.1 129 v1.toNatClampNeg) - v2
    g_X12_moves_13 (g_X12_moves_42) rhFU s v1 v2 v3 x1 0
set_option maxHeartbeats 400000 in
set_option maxRecDepth 100000 in
theorem e_X12_moves_13 {Γ : rhG} {R : Nat → Nat → Nat} (hS : ShS Γ R) {f42 : rhM → Nat → Int32 → Int32 → Int32 → Int32 → Option (rhM)} {k42 : ryS → Int32 → Int32 → Int32 → Int32 → Option (ryS)} (hk42 : ∀ (s : ryS) (v1 : Int32) (v2 : Int32) (v3 : Int32) (v4 : Int32), f42 (ryM s R) 102 v1 v2 v3 v4 = Option.map (fun s => ryM s R) (k42 s v1 v2 v3 v4)) : ∀ (n : Nat) (s : ryS) (v1 : Int32) (v2 : Int32) (v3 : Int32) (v4 : Int32) (v5 : Int32), f_X12_moves_13 f42 Γ n (ryM s R) 102 v1 v2 v3 v4 v5 = Option.map (fun s => ryM s R) (g_X12_moves_13 k42 n s v1 v2 v3 v4 v5) := by
  intro n
  induction n with
  | zero => intros; simp only [f_X12_moves_13, g_X12_moves_13, Option.map_none]
  | succ n ih =>
    intros
    simp only [f_X12_moves_13, g_X12_moves_13, rhck, ryM_1, ryM_2, ryM_3, ry_si, ry_sl, if_true, ry_ck, Option.map_some, Option.map_none, ry_ite, ry_bm, ry_mb, Nat.add_assoc, Nat.reduceAdd, Option.some_bind, Option.bind_some, ssk_102 hS, ssk_128 hS, ssk_130 hS, ssl_128 hS, ssl_130 hS, ssr_102_39 hS, ssr_102_41 hS, hk42, ih]
set_option maxHeartbeats 400000 in
set_option maxRecDepth 100000 in
theorem e_X12_moves_51 {Γ : rhG} {R : Nat → Nat → Nat} (hS : ShS Γ R) {f86 : rhM → Nat → Int32 → Int32 → Int32 → Option (rhM)} {k86 : ryS → Int32 → Int32 → Int32 → Option (ryS)} (hk86 : ∀ (s : ryS) (v1 : Int32) (v2 : Int32) (v3 : Int32), f86 (ryM s R) 102 v1 v2 v3 = Option.map (fun s => ryM s R) (k86 s v1 v2 v3)) : ∀ (n : Nat) (s : ryS) (v1 : Int32) (v2 : Int32) (v3 : Int32) (v5 : Int32), f_X12_moves_51 f86 Γ n (ryM s R) 102 v1 v2 v3 v5 = Option.map (fun s => ryM s R) (g_X12_moves_51 k86 n s v1 v2 v3 v5) := by
  intro n
  induction n with
  | zero => intros; simp only [f_X12_moves_51, g_X12_moves_51, Option.map_none]
  | succ n ih =>
    intros
    simp only [f_X12_moves_51, g_X12_moves_51, rhck, ryM_1, ryM_2, ryM_3, ry_si, ry_sl, if_true, ry_ck, Option.map_some, Option.map_none, ry_ite, ry_bm, ry_mb, Nat.add_assoc, Nat.reduceAdd, Option.some_bind, Option.bind_some, ssk_102 hS, ssk_128 hS, ssk_129 hS, ssl_128 hS, ssl_129 hS, ssr_102_39 hS, ssr_102_40 hS, hk86, ih]
set_option maxHeartbeats 400000 in
set_option maxRecDepth 100000 in
theorem e_X12_moves_89 {Γ : rhG} {R : Nat → Nat → Nat} (hS : ShS Γ R) {f112 : rhM → Nat → Int32 → Int32 → Option (rhM)} {k112 : ryS → Int32 → Int32 → Option (ryS)} (hk112 : ∀ (s : ryS) (v2 : Int32) (v3 : Int32), f112 (ryM s R) 102 v2 v3 = Option.map (fun s => ryM s R) (k112 s v2 v3)) : ∀ (n : Nat) (s : ryS) (v2 : Int32) (v3 : Int32) (v5 : Int32), f_X12_moves_89 f112 Γ n (ryM s R) 102 v2 v3 v5 = Option.map (fun s => ryM s R) (g_X12_moves_89 k112 n s v2 v3 v5) := by
  intro n
  induction n with
  | zero => intros; simp only [f_X12_moves_89, g_X12_moves_89, Option.map_none]
  | succ n ih =>
    intros
    simp only [f_X12_moves_89, g_X12_moves_89, rhck, ryM_1, ryM_2, ryM_3, ry_si, ry_sl, if_true, ry_ck, Option.map_some, Option.map_none, ry_ite, ry_bm, ry_mb, Nat.add_assoc, Nat.reduceAdd, Option.some_bind, Option.bind_some, ssk_102 hS, ssk_129 hS, ssl_129 hS, ssr_102_40 hS, hk112, ih]
set_option maxHeartbeats 400000 in
set_option maxRecDepth 100000 in
theorem e_X12_moves_112 {Γ : rhG} {R : Nat → Nat → Nat} (hS : ShS Γ R) {f180 : rhM → Nat → Int32 → Int32 → Option (rhM)} {k180 : ryS → Int32 → Int32 → Option (ryS)} (hk180 : ∀ (s : ryS) (v2 : Int32) (v3 : Int32), f180 (ryM s R) 102 v2 v3 = Option.map (fun s => ryM s R) (k180 s v2 v3)) : ∀ (s : ryS) (v2 : Int32) (v3 : Int32), f_X12_moves_112 f180 Γ (ryM s R) 102 v2 v3 = Option.map (fun s => ryM s R) (g_X12_moves_112 k180 s v2 v3) := by
  intros
  simp only [f_X12_moves_112, g_X12_moves_112, rhck, ryM_1, ryM_2, ryM_3, ry_si, ry_sl, if_true, ry_ck, Option.map_some, Option.map_none, ry_ite, ry_bm, ry_mb, Nat.add_assoc, Nat.reduceAdd, Option.some_bind, Option.bind_some, hk180]
set_option maxHeartbeats 400000 in
set_option maxRecDepth 100000 in
theorem e_X12_moves_86 {Γ : rhG} {R : Nat → Nat → Nat} (hS : ShS Γ R) {f180 : rhM → Nat → Int32 → Int32 → Option (rhM)} {k180 : ryS → Int32 → Int32 → Option (ryS)} (hk180 : ∀ (s : ryS) (v2 : Int32) (v3 : Int32), f180 (ryM s R) 102 v2 v3 = Option.map (fun s => ryM s R) (k180 s v2 v3)) : ∀ (s : ryS) (v1 : Int32) (v2 : Int32) (v3 : Int32), f_X12_moves_86 f180 Γ (ryM s R) 102 v1 v2 v3 = Option.map (fun s => ryM s R) (g_X12_moves_86 k180 s v1 v2 v3) := by
  intros
  simp only [f_X12_moves_86, g_X12_moves_86, rhck, ryM_1, ryM_2, ryM_3, ry_si, ry_sl, if_true, ry_ck, Option.map_some, Option.map_none, ry_ite, ry_bm, ry_mb, Nat.add_assoc, Nat.reduceAdd, Option.some_bind, Option.bind_some, hk180, e_X12_moves_89 hS (e_X12_moves_112 hS hk180), e_X12_moves_112 hS hk180]
set_option maxHeartbeats 400000 in
set_option maxRecDepth 100000 in
theorem e_X12_moves_183 {Γ : rhG} {R : Nat → Nat → Nat} (hS : ShS Γ R) : ∀ (n : Nat) (s : ryS) (v2 : Int32) (v3 : Int32) (v5 : Int32), f_X12_moves_183 Γ n (ryM s R) 102 v2 v3 v5 = Option.map (fun s => ryM s R) (g_X12_moves_183 n s v2 v3 v5) := by
  intro n
  induction n with
  | zero => intros; simp only [f_X12_moves_183, g_X12_moves_183, Option.map_none]
  | succ n ih =>
    intros
    simp only [f_X12_moves_183, g_X12_moves_183, rhck, ryM_1, ryM_2, ryM_3, ry_si, ry_sl, if_true, ry_ck, Option.map_some, Option.map_none, ry_ite, ry_bm, ry_mb, Nat.add_assoc, Nat.reduceAdd, Option.some_bind, Option.bind_some, ssk_102 hS, ssk_128 hS, ssk_129 hS, ssk_130 hS, ssl_128 hS, ssl_129 hS, ssl_130 hS, ssr_102_39 hS, ssr_102_40 hS, ssr_102_41 hS, ih]
set_option maxHeartbeats 400000 in
set_option maxRecDepth 100000 in
theorem e_X12_moves_180 {Γ : rhG} {R : Nat → Nat → Nat} (hS : ShS Γ R) : ∀ (s : ryS) (v2 : Int32) (v3 : Int32), f_X12_moves_180 Γ (ryM s R) 102 v2 v3 = Option.map (fun s => ryM s R) (g_X12_moves_180 s v2 v3) := by
  intros
  simp only [f_X12_moves_180, g_X12_moves_180, rhck, ryM_1, ryM_2, ryM_3, ry_si, ry_sl, if_true, ry_ck, Option.map_some, Option.map_none, ry_ite, ry_bm, ry_mb, Nat.add_assoc, Nat.reduceAdd, Option.some_bind, Option.bind_some, e_X12_moves_183 hS]
set_option maxHeartbeats 400000 in
set_option maxRecDepth 100000 in
theorem e_X12_moves_121 {Γ : rhG} {R : Nat → Nat → Nat} (hS : ShS Γ R) {f154 : rhM → Nat → Int32 → Int32 → Int32 → Option (rhM)} {k154 : ryS → Int32 → Int32 → Int32 → Option (ryS)} (hk154 : ∀ (s : ryS) (v1 : Int32) (v2 : Int32) (v3 : Int32), f154 (ryM s R) 102 v1 v2 v3 = Option.map (fun s => ryM s R) (k154 s v1 v2 v3)) : ∀ (n : Nat) (s : ryS) (v1 : Int32) (v2 : Int32) (v3 : Int32) (v5 : Int32), f_X12_moves_121 f154 Γ n (ryM s R) 102 v1 v2 v3 v5 = Option.map (fun s => ryM s R) (g_X12_moves_121 k154 n s v1 v2 v3 v5) := by
  intro n
  induction n with
  | zero => intros; simp only [f_X12_moves_121, g_X12_moves_121, Option.map_none]
  | succ n ih =>
    intros
    simp only [f_X12_moves_121, g_X12_moves_121, rhck, ryM_1, ryM_2, ryM_3, ry_si, ry_sl, if_true, ry_ck, Option.map_some, Option.map_none, ry_ite, ry_bm, ry_mb, Nat.add_assoc, Nat.reduceAdd, Option.some_bind, Option.bind_some, ssk_102 hS, ssk_128 hS, ssk_129 hS, ssl_128 hS, ssl_129 hS, ssr_102_39 hS, ssr_102_40 hS, hk154, ih]
set_option maxHeartbeats 400000 in
set_option maxRecDepth 100000 in
theorem e_X12_moves_157 {Γ : rhG} {R : Nat → Nat → Nat} (hS : ShS Γ R) {f180 : rhM → Nat → Int32 → Int32 → Option (rhM)} {k180 : ryS → Int32 → Int32 → Option (ryS)} (hk180 : ∀ (s : ryS) (v2 : Int32) (v3 : Int32), f180 (ryM s R) 102 v2 v3 = Option.map (fun s => ryM s R) (k180 s v2 v3)) : ∀ (n : Nat) (s : ryS) (v1 : Int32) (v2 : Int32) (v3 : Int32) (v5 : Int32), f_X12_moves_157 f180 Γ n (ryM s R) 102 v1 v2 v3 v5 = Option.map (fun s => ryM s R) (g_X12_moves_157 k180 n s v1 v2 v3 v5) := by
  intro n
  induction n with
  | zero => intros; simp only [f_X12_moves_157, g_X12_moves_157, Option.map_none]
  | succ n ih =>
    intros
    simp only [f_X12_moves_157, g_X12_moves_157, rhck, ryM_1, ryM_2, ryM_3, ry_si, ry_sl, if_true, ry_ck, Option.map_some, Option.map_none, ry_ite, ry_bm, ry_mb, Nat.add_assoc, Nat.reduceAdd, Option.some_bind, Option.bind_some, ssk_102 hS, ssk_129 hS, ssl_129 hS, ssr_102_40 hS, hk180, ih]
set_option maxHeartbeats 400000 in
set_option maxRecDepth 100000 in
theorem e_X12_moves_154 {Γ : rhG} {R : Nat → Nat → Nat} (hS : ShS Γ R) {f180 : rhM → Nat → Int32 → Int32 → Option (rhM)} {k180 : ryS → Int32 → Int32 → Option (ryS)} (hk180 : ∀ (s : ryS) (v2 : Int32) (v3 : Int32), f180 (ryM s R) 102 v2 v3 = Option.map (fun s => ryM s R) (k180 s v2 v3)) : ∀ (s : ryS) (v1 : Int32) (v2 : Int32) (v3 : Int32), f_X12_moves_154 f180 Γ (ryM s R) 102 v1 v2 v3 = Option.map (fun s => ryM s R) (g_X12_moves_154 k180 s v1 v2 v3) := by
  intros
  simp only [f_X12_moves_154, g_X12_moves_154, rhck, ryM_1, ryM_2, ryM_3, ry_si, ry_sl, if_true, ry_ck, Option.map_some, Option.map_none, ry_ite, ry_bm, ry_mb, Nat.add_assoc, Nat.reduceAdd, Option.some_bind, Option.bind_some, hk180, e_X12_moves_157 hS hk180]
set_option maxHeartbeats 400000 in
set_option maxRecDepth 100000 in
theorem e_X12_moves_42 {Γ : rhG} {R : Nat → Nat → Nat} (hS : ShS Γ R) : ∀ (s : ryS) (v1 : Int32) (v2 : Int32) (v3 : Int32) (v4 : Int32), f_X12_moves_42 Γ (ryM s R) 102 v1 v2 v3 v4 = Option.map (fun s => ryM s R) (g_X12_moves_42 s v1 v2 v3 v4) := by
  intros
  simp only [f_X12_moves_42, g_X12_moves_42, rhck, ryM_1, ryM_2, ryM_3, ry_si, ry_sl, if_true, ry_ck, Option.map_some, Option.map_none, ry_ite, ry_bm, ry_mb, Nat.add_assoc, Nat.reduceAdd, Option.some_bind, Option.bind_some, e_X12_moves_51 hS (e_X12_moves_86 hS (e_X12_moves_180 hS)), e_X12_moves_86 hS (e_X12_moves_180 hS), e_X12_moves_180 hS, e_X12_moves_121 hS (e_X12_moves_154 hS (e_X12_moves_180 hS)), e_X12_moves_154 hS (e_X12_moves_180 hS)]
set_option maxHeartbeats 400000 in
set_option maxRecDepth 100000 in
theorem e_X12_moves {Γ : rhG} {R : Nat → Nat → Nat} (hS : ShS Γ R) : ∀ (s : ryS) (v1 : Int32) (v2 : Int32) (v3 : Int32), f_X12_moves Γ (ryM s R) 102 v1 v2 v3 = Option.map (fun s => ryM s R) (g_X12_moves s v1 v2 v3) := by
  intros
  simp only [f_X12_moves, g_X12_moves, rhck, ryM_1, ryM_2, ryM_3, ry_si, ry_sl, if_true, ry_ck, Option.map_some, Option.map_none, ry_ite, ry_bm, ry_mb, Nat.add_assoc, Nat.reduceAdd, Option.some_bind, Option.bind_some, ssk_102 hS, ssk_129 hS, ssl_129 hS, ssr_102_40 hS, e_X12_moves_13 hS (e_X12_moves_42 hS), e_X12_moves_42 hS]
def g_X12_isLawful (s : ryS) (v1 : Int32) (v2 : Int32) (v3 : Int32) : Option (Int32 × ryS) :=
    (g_X12_canBe s v1 v2 v3).bind fun r1 =>
    if r1 = 0 then
      (some ((0, s)))
    else
      (g_X12_sumOf (16 : Nat) s 113 v1 v2).bind fun r2 =>
      rhck (0 ≤ (s.1 102 34).toInt ∧ (s.1 102 34).toInt < (2 : Nat)) <|
      if (s.1 109 (s.1 102 34).toNatClampNeg) < r2 then
        (some ((0, s)))
      else
        (g_X12_roomOn s v3).bind fun r3 =>
        if r3 < r2 then
          (some ((0, s)))
        else
          (g_X12_sumOf (16 : Nat) s 114 v1 v2).bind fun r4 =>
          rhck (0 ≤ (s.1 102 34).toInt ∧ (s.1 102 34).toInt < (2 : Nat)) <|
          if (s.1 110 (s.1 102 34).toNatClampNeg) < r4 then
            (some ((0, s)))
          else
            (g_X12_comes s v1 v2 v3).bind fun r5 =>
            if r5.1 = 0 then
              (some ((0, r5.2)))
            else
              some ((1, r5.2))
set_option maxHeartbeats 400000 in
set_option maxRecDepth 100000 in
theorem e_X12_isLawful {Γ : rhG} {R : Nat → Nat → Nat} (hS : ShS Γ R) : ∀ (s : ryS) (v1 : Int32) (v2 : Int32) (v3 : Int32), f_X12_isLawful Γ (ryM s R) 102 v1 v2 v3 = Option.map (fun q => (q.1, ryM q.2 R)) (g_X12_isLawful s v1 v2 v3) := by
  intros
  simp only [f_X12_isLawful, g_X12_isLawful, rhck, ryM_1, ryM_2, ryM_3, ry_si, ry_sl, if_true, ry_ck, Option.map_some, Option.map_none, ry_ite, ry_bm, ry_mb, Nat.add_assoc, Nat.reduceAdd, Option.some_bind, Option.bind_some, ssk_102 hS, ssk_109 hS, ssk_110 hS, ssk_113 hS, ssk_114 hS, ssl_109 hS, ssl_110 hS, ssl_113 hS, ssl_114 hS, ssr_102_15 hS, ssr_102_16 hS, ssr_102_19 hS, ssr_102_20 hS, e_X12_canBe hS, e_X12_sumOf hS ⟨ssk_113 hS, ssl_113 hS⟩, e_X12_roomOn hS, e_X12_sumOf hS ⟨ssk_114 hS, ssl_114 hS⟩, e_X12_comes hS]
def g_X12_layTried_2 (k31 : ryS → Int32 → Option (ryS)) : Nat → ryS → Int32 → Int32 → Option (ryS)
  | 0, _, _, _ => none
  | n + 1, s, v1, v2 =>
    if v2 < 8 then
      (rhck (0 ≤ ((8 * v1) + v2).toInt ∧ ((8 * v1) + v2).toInt < (32 : Nat)) <|
      rhck (0 ≤ (v2).toInt ∧ (v2).toInt < (8 : Nat)) <|
      let s1 := rysi s 128 (v2 : Int32).toNatClampNeg ((s.1 155 ((8 * v1) + v2).toNatClampNeg))
      let x2 : Int32 := v2 + 1
      g_X12_layTried_2 k31 n s1 v1 x2)
    else
      k31 s v1
def g_X12_layTried_33 : Nat → ryS → Int32 → Int32 → Option (ryS)
  | 0, _, _, _ => none
  | n + 1, s, v1, v2 =>
    if v2 < 5 then
      (rhck (0 ≤ ((6 * v1) + v2).toInt ∧ ((6 * v1) + v2).toInt < (24 : Nat)) <|
      rhck (0 ≤ (v2).toInt ∧ (v2).toInt < (6 : Nat)) <|
      let s3 := rysi s 129 (v2 : Int32).toNatClampNeg ((s.1 156 ((6 * v1) + v2).toNatClampNeg))
      let x4 : Int32 := v2 + 1
      g_X12_layTried_33 n s3 v1 x4)
    else
      some s
def g_X12_layTried_31 (s : ryS) (v1 : Int32) : Option (ryS) :=
    g_X12_layTried_33 rhFU s v1 0
def g_X12_layTried (s : ryS) (v1 : Int32) : Option (ryS) :=
    g_X12_layTried_2 (g_X12_layTried_31) rhFU s v1 0
set_option maxHeartbeats 400000 in
set_option maxRecDepth 100000 in
theorem e_X12_layTried_2 {Γ : rhG} {R : Nat → Nat → Nat} (hS : ShS Γ R) {f31 : rhM → Nat → Int32 → Option (rhM)} {k31 : ryS → Int32 → Option (ryS)} (hk31 : ∀ (s : ryS) (v1 : Int32), f31 (ryM s R) 102 v1 = Option.map (fun s => ryM s R) (k31 s v1)) : ∀ (n : Nat) (s : ryS) (v1 : Int32) (v2 : Int32), f_X12_layTried_2 f31 Γ n (ryM s R) 102 v1 v2 = Option.map (fun s => ryM s R) (g_X12_layTried_2 k31 n s v1 v2) := by
  intro n
  induction n with
  | zero => intros; simp only [f_X12_layTried_2, g_X12_layTried_2, Option.map_none]
  | succ n ih =>
    intros
    simp only [f_X12_layTried_2, g_X12_layTried_2, rhck, ryM_1, ryM_2, ryM_3, ry_si, ry_sl, if_true, ry_ck, Option.map_some, Option.map_none, ry_ite, ry_bm, ry_mb, Nat.add_assoc, Nat.reduceAdd, Option.some_bind, Option.bind_some, ssk_102 hS, ssk_128 hS, ssk_155 hS, ssl_128 hS, ssl_155 hS, ssr_102_39 hS, ssr_102_78 hS, hk31, ih]
set_option maxHeartbeats 400000 in
set_option maxRecDepth 100000 in
theorem e_X12_layTried_33 {Γ : rhG} {R : Nat → Nat → Nat} (hS : ShS Γ R) : ∀ (n : Nat) (s : ryS) (v1 : Int32) (v2 : Int32), f_X12_layTried_33 Γ n (ryM s R) 102 v1 v2 = Option.map (fun s => ryM s R) (g_X12_layTried_33 n s v1 v2) := by
  intro n
  induction n with
  | zero => intros; simp only [f_X12_layTried_33, g_X12_layTried_33, Option.map_none]
  | succ n ih =>
    intros
    simp only [f_X12_layTried_33, g_X12_layTried_33, rhck, ryM_1, ryM_2, ryM_3, ry_si, ry_sl, if_true, ry_ck, Option.map_some, Option.map_none, ry_ite, ry_bm, ry_mb, Nat.add_assoc, Nat.reduceAdd, Option.some_bind, Option.bind_some, ssk_102 hS, ssk_129 hS, ssk_156 hS, ssl_129 hS, ssl_156 hS, ssr_102_40 hS, ssr_102_79 hS, ih]
set_option maxHeartbeats 400000 in
set_option maxRecDepth 100000 in
theorem e_X12_layTried_31 {Γ : rhG} {R : Nat → Nat → Nat} (hS : ShS Γ R) : ∀ (s : ryS) (v1 : Int32), f_X12_layTried_31 Γ (ryM s R) 102 v1 = Option.map (fun s => ryM s R) (g_X12_layTried_31 s v1) := by
  intros
  simp only [f_X12_layTried_31, g_X12_layTried_31, rhck, ryM_1, ryM_2, ryM_3, ry_si, ry_sl, if_true, ry_ck, Option.map_some, Option.map_none, ry_ite, ry_bm, ry_mb, Nat.add_assoc, Nat.reduceAdd, Option.some_bind, Option.bind_some, e_X12_layTried_33 hS]
set_option maxHeartbeats 400000 in
set_option maxRecDepth 100000 in
theorem e_X12_layTried {Γ : rhG} {R : Nat → Nat → Nat} (hS : ShS Γ R) : ∀ (s : ryS) (v1 : Int32), f_X12_layTried Γ (ryM s R) 102 v1 = Option.map (fun s => ryM s R) (g_X12_layTried s v1) := by
  intros
  simp only [f_X12_layTried, g_X12_layTried, rhck, ryM_1, ryM_2, ryM_3, ry_si, ry_sl, if_true, ry_ck, Option.map_some, Option.map_none, ry_ite, ry_bm, ry_mb, Nat.add_assoc, Nat.reduceAdd, Option.some_bind, Option.bind_some, e_X12_layTried_2 hS (e_X12_layTried_31 hS), e_X12_layTried_31 hS]
def g_X12_nextPull_9 : Nat → ryS → Int32 → Option (Int32 × ryS)
  | 0, _, _ => none
  | n + 1, s, v3 =>
    if v3 < 500 then
      ((g_X12_isLawful s (v3 / 100) ((v3 / 10) - (v3 / 10) / 10 * 10) (v3 - v3 / 10 * 10)).bind fun r3 =>
      if r3.1 = 0 then
        (let x4 : Int32 := v3 + 1
        g_X12_nextPull_9 n r3.2 x4)
      else
        some ((v3, r3.2)))
    else
      some (((-1), s))
def g_X12_nextPull (s : ryS) (v1 : Int32) (v2 : Int32) : Option (Int32 × ryS) :=
    (g_X12_layTried s v1).bind fun r1 =>
    let x2 := v2 + 1
    g_X12_nextPull_9 rhFU r1 x2
set_option maxHeartbeats 400000 in
set_option maxRecDepth 100000 in
theorem e_X12_nextPull_9 {Γ : rhG} {R : Nat → Nat → Nat} (hS : ShS Γ R) : ∀ (n : Nat) (s : ryS) (v3 : Int32), f_X12_nextPull_9 Γ n (ryM s R) 102 v3 = Option.map (fun q => (q.1, ryM q.2 R)) (g_X12_nextPull_9 n s v3) := by
  intro n
  induction n with
  | zero => intros; simp only [f_X12_nextPull_9, g_X12_nextPull_9, Option.map_none]
  | succ n ih =>
    intros
    simp only [f_X12_nextPull_9, g_X12_nextPull_9, rhck, ryM_1, ryM_2, ryM_3, ry_si, ry_sl, if_true, ry_ck, Option.map_some, Option.map_none, ry_ite, ry_bm, ry_mb, Nat.add_assoc, Nat.reduceAdd, Option.some_bind, Option.bind_some, ssk_102 hS, e_X12_isLawful hS, ih]
set_option maxHeartbeats 400000 in
set_option maxRecDepth 100000 in
theorem e_X12_nextPull {Γ : rhG} {R : Nat → Nat → Nat} (hS : ShS Γ R) : ∀ (s : ryS) (v1 : Int32) (v2 : Int32), f_X12_nextPull Γ (ryM s R) 102 v1 v2 = Option.map (fun q => (q.1, ryM q.2 R)) (g_X12_nextPull s v1 v2) := by
  intros
  simp only [f_X12_nextPull, g_X12_nextPull, rhck, ryM_1, ryM_2, ryM_3, ry_si, ry_sl, if_true, ry_ck, Option.map_some, Option.map_none, ry_ite, ry_bm, ry_mb, Nat.add_assoc, Nat.reduceAdd, Option.some_bind, Option.bind_some, ssk_102 hS, e_X12_layTried hS, e_X12_nextPull_9 hS]
def g_X12_rowsOf_2 (k21 : ryS → Int32 → Int32 → Option (Int32 × ryS)) : Nat → ryS → Int32 → Int32 → Int32 → Option (Int32 × ryS)
  | 0, _, _, _, _ => none
  | n + 1, s, v1, v2, v3 =>
    if v3 < 8 then
      (rhck (0 ≤ (v3).toInt ∧ (v3).toInt < (8 : Nat)) <|
      let s1 := rysi s 154 (v3 : Int32).toNatClampNeg 0
      let x2 : Int32 := v3 + 1
      g_X12_rowsOf_2 k21 n s1 v1 v2 x2)
    else
      k21 s v1 v2
def g_X12_rowsOf_62 : Nat → ryS → Int32 → Int32 → Int32 → Int32 → Option (Int32 × ryS)
  | 0, _, _, _, _, _ => none
  | n + 1, s, v1, v2, v3, v4 =>
    if v4 < 0 then
      (some ((v3, s)))
    else
      rhck (0 ≤ (v4).toInt ∧ (v4).toInt < (4 : Nat)) <|
      (g_X12_nextPull s v4 (s.1 157 v4.toNatClampNeg)).bind fun r8 =>
      let s9 := rysi r8.2 157 (v4 : Int32).toNatClampNeg r8.1
      if (s9.1 157 v4.toNatClampNeg) < 0 then
        (let x10 : Int32 := v4 + (-1)
        g_X12_rowsOf_62 n s9 v1 v2 v3 x10)
      else
        (g_X12_moves s9 ((s9.1 157 v4.toNatClampNeg) / 100) (((s9.1 157 v4.toNatClampNeg) / 10) - ((s9.1 157 v4.toNatClampNeg) / 10) / 10 * 10) ((s9.1 157 v4.toNatClampNeg) - (s9.1 157 v4.toNatClampNeg) / 10 * 10)).bind fun r11 =>
        (g_X12_isSo r11 (v4 + 1) v2).bind fun r12 =>
        if r12 = 0 then
          (g_X12_rowsOf_62 n r11 v1 v2 v3 v4)
        else
          if (v4 + 1) = v1 then
            ((g_X12_meets r11).bind fun r13 =>
            let x14 := v3 + r13.1
            g_X12_rowsOf_62 n r13.2 v1 v2 x14 v4)
          else
            let x15 : Int32 := v4 + 1
            (g_X12_keepTried r11 x15).bind fun r16 =>
            rhck (0 ≤ (x15).toInt ∧ (x15).toInt < (4 : Nat)) <|
            let s17 := rysi r16 157 (x15 : Int32).toNatClampNeg (((-1)))
            g_X12_rowsOf_62 n s17 v1 v2 v3 x15
def g_X12_rowsOf_21 (s : ryS) (v1 : Int32) (v2 : Int32) : Option (Int32 × ryS) :=
    (g_X12_layFirst s).bind fun r3 =>
    (g_X12_keepTried r3 (0 : Int32)).bind fun r4 =>
    (g_X12_isSo r4 (0 : Int32) v2).bind fun r5 =>
    if r5 = 0 then
      (some ((0, r4)))
    else
      if v1 = 0 then
        ((g_X12_meets r4).bind fun r6 =>
        some ((r6.1, r6.2)))
      else
        rhck (0 ≤ (0 : Int32).toInt ∧ (0 : Int32).toInt < (4 : Nat)) <|
        let s7 := rysi r4 157 (0 : Int32).toNatClampNeg (((-1)))
        g_X12_rowsOf_62 rhFU s7 v1 v2 0 0
def g_X12_rowsOf (s : ryS) (v1 : Int32) (v2 : Int32) : Option (Int32 × ryS) :=
    g_X12_rowsOf_2 (g_X12_rowsOf_21) rhFU s v1 v2 0
set_option maxHeartbeats 400000 in
set_option maxRecDepth 100000 in
theorem e_X12_rowsOf_2 {Γ : rhG} {R : Nat → Nat → Nat} (hS : ShS Γ R) {f21 : rhM → Nat → Int32 → Int32 → Option (Int32 × rhM)} {k21 : ryS → Int32 → Int32 → Option (Int32 × ryS)} (hk21 : ∀ (s : ryS) (v1 : Int32) (v2 : Int32), f21 (ryM s R) 102 v1 v2 = Option.map (fun q => (q.1, ryM q.2 R)) (k21 s v1 v2)) : ∀ (n : Nat) (s : ryS) (v1 : Int32) (v2 : Int32) (v3 : Int32), f_X12_rowsOf_2 f21 Γ n (ryM s R) 102 v1 v2 v3 = Option.map (fun q => (q.1, ryM q.2 R)) (g_X12_rowsOf_2 k21 n s v1 v2 v3) := by
  intro n
  induction n with
  | zero => intros; simp only [f_X12_rowsOf_2, g_X12_rowsOf_2, Option.map_none]
  | succ n ih =>
    intros
    simp only [f_X12_rowsOf_2, g_X12_rowsOf_2, rhck, ryM_1, ryM_2, ryM_3, ry_si, ry_sl, if_true, ry_ck, Option.map_some, Option.map_none, ry_ite, ry_bm, ry_mb, Nat.add_assoc, Nat.reduceAdd, Option.some_bind, Option.bind_some, ssk_102 hS, ssk_154 hS, ssl_154 hS, ssr_102_77 hS, hk21, ih]
set_option maxHeartbeats 400000 in
set_option maxRecDepth 100000 in
theorem e_X12_rowsOf_62 {Γ : rhG} {R : Nat → Nat → Nat} (hS : ShS Γ R) : ∀ (n : Nat) (s : ryS) (v1 : Int32) (v2 : Int32) (v3 : Int32) (v4 : Int32), f_X12_rowsOf_62 Γ n (ryM s R) 102 v1 v2 v3 v4 = Option.map (fun q => (q.1, ryM q.2 R)) (g_X12_rowsOf_62 n s v1 v2 v3 v4) := by
  intro n
  induction n with
  | zero => intros; simp only [f_X12_rowsOf_62, g_X12_rowsOf_62, Option.map_none]
  | succ n ih =>
    intros
    simp only [f_X12_rowsOf_62, g_X12_rowsOf_62, rhck, ryM_1, ryM_2, ryM_3, ry_si, ry_sl, if_true, ry_ck, Option.map_some, Option.map_none, ry_ite, ry_bm, ry_mb, Nat.add_assoc, Nat.reduceAdd, Option.some_bind, Option.bind_some, ssk_102 hS, ssk_157 hS, ssl_157 hS, ssr_102_80 hS, e_X12_nextPull hS, e_X12_moves hS, e_X12_isSo hS, e_X12_meets hS, e_X12_keepTried hS, ih]
set_option maxHeartbeats 400000 in
set_option maxRecDepth 100000 in
theorem e_X12_rowsOf_21 {Γ : rhG} {R : Nat → Nat → Nat} (hS : ShS Γ R) : ∀ (s : ryS) (v1 : Int32) (v2 : Int32), f_X12_rowsOf_21 Γ (ryM s R) 102 v1 v2 = Option.map (fun q => (q.1, ryM q.2 R)) (g_X12_rowsOf_21 s v1 v2) := by
  intros
  simp only [f_X12_rowsOf_21, g_X12_rowsOf_21, rhck, ryM_1, ryM_2, ryM_3, ry_si, ry_sl, if_true, ry_ck, Option.map_some, Option.map_none, ry_ite, ry_bm, ry_mb, Nat.add_assoc, Nat.reduceAdd, Option.some_bind, Option.bind_some, ssk_102 hS, ssk_157 hS, ssl_157 hS, ssr_102_80 hS, e_X12_layFirst hS, e_X12_keepTried hS, e_X12_isSo hS, e_X12_meets hS, e_X12_rowsOf_62 hS]
set_option maxHeartbeats 400000 in
set_option maxRecDepth 100000 in
theorem e_X12_rowsOf {Γ : rhG} {R : Nat → Nat → Nat} (hS : ShS Γ R) : ∀ (s : ryS) (v1 : Int32) (v2 : Int32), f_X12_rowsOf Γ (ryM s R) 102 v1 v2 = Option.map (fun q => (q.1, ryM q.2 R)) (g_X12_rowsOf s v1 v2) := by
  intros
  simp only [f_X12_rowsOf, g_X12_rowsOf, rhck, ryM_1, ryM_2, ryM_3, ry_si, ry_sl, if_true, ry_ck, Option.map_some, Option.map_none, ry_ite, ry_bm, ry_mb, Nat.add_assoc, Nat.reduceAdd, Option.some_bind, Option.bind_some, e_X12_rowsOf_2 hS (e_X12_rowsOf_21 hS), e_X12_rowsOf_21 hS]
def g_X12_can (s : ryS) (v1 : Int32) (v2 : Int32) (v3 : Int32) : Option (Int32 × ryS) :=
    (g_X12_isHouse s v1).bind fun r1 =>
    if r1 = 0 then
      (some (((-1), s)))
    else
      (g_X12_isIn s v2 (0 : Int32) (3 : Int32)).bind fun r2 =>
      if r2 = 0 then
        (some (((-1), s)))
      else
        (g_X12_rowsOf s v2 v3).bind fun r3 =>
        rhck (0 ≤ (v1).toInt ∧ (v1).toInt < (8 : Nat)) <|
        some ((r3.2.1 154 v1.toNatClampNeg, r3.2))
set_option maxHeartbeats 400000 in
set_option maxRecDepth 100000 in
theorem e_X12_can {Γ : rhG} {R : Nat → Nat → Nat} (hS : ShS Γ R) : ∀ (s : ryS) (v1 : Int32) (v2 : Int32) (v3 : Int32), f_X12_can Γ (ryM s R) 102 v1 v2 v3 = Option.map (fun q => (q.1, ryM q.2 R)) (g_X12_can s v1 v2 v3) := by
  intros
  simp only [f_X12_can, g_X12_can, rhck, ryM_1, ryM_2, ryM_3, ry_si, ry_sl, if_true, ry_ck, Option.map_some, Option.map_none, ry_ite, ry_bm, ry_mb, Nat.add_assoc, Nat.reduceAdd, Option.some_bind, Option.bind_some, ssk_102 hS, ssk_154 hS, ssl_154 hS, ssr_102_77 hS, e_X12_isHouse hS, e_X12_isIn, e_X12_rowsOf hS]
def g_X12_clearBank_127 : Nat → ryS → Int32 → Option (ryS)
  | 0, _, _ => none
  | n + 1, s, v1 =>
    if v1 < ((64 * (s.1 102 35)) + 64) then
      (rhck (0 ≤ (v1).toInt ∧ (v1).toInt < (128 : Nat)) <|
      let s13 := rysi s 116 (v1 : Int32).toNatClampNeg 0
      rhck (0 ≤ (v1).toInt ∧ (v1).toInt < (128 : Nat)) <|
      let s14 := rysi s13 120 (v1 : Int32).toNatClampNeg ((vp_nar .boolean 0))
      let x15 : Int32 := v1 + 1
      g_X12_clearBank_127 n s14 x15)
    else
      some s
def g_X12_clearBank (s : ryS) : Option (ryS) :=
    rhck (0 ≤ (s.1 102 35).toInt ∧ (s.1 102 35).toInt < (2 : Nat)) <|
    let s1 := rysi s 105 (s.1 102 35 : Int32).toNatClampNeg 0
    rhck (0 ≤ (s1.1 102 35).toInt ∧ (s1.1 102 35).toInt < (2 : Nat)) <|
    let s2 := rysi s1 106 (s1.1 102 35 : Int32).toNatClampNeg 0
    rhck (0 ≤ (s2.1 102 35).toInt ∧ (s2.1 102 35).toInt < (2 : Nat)) <|
    let s3 := rysi s2 107 (s2.1 102 35 : Int32).toNatClampNeg 0
    rhck (0 ≤ (s3.1 102 35).toInt ∧ (s3.1 102 35).toInt < (2 : Nat)) <|
    let s4 := rysi s3 108 (s3.1 102 35 : Int32).toNatClampNeg 0
    rhck (0 ≤ (s4.1 102 35).toInt ∧ (s4.1 102 35).toInt < (2 : Nat)) <|
    let s5 := rysi s4 109 (s4.1 102 35 : Int32).toNatClampNeg 999
    rhck (0 ≤ (s5.1 102 35).toInt ∧ (s5.1 102 35).toInt < (2 : Nat)) <|
    let s6 := rysi s5 110 (s5.1 102 35 : Int32).toNatClampNeg 999
    rhck (0 ≤ (s6.1 102 35).toInt ∧ (s6.1 102 35).toInt < (2 : Nat)) <|
    let s7 := rysi s6 117 (s6.1 102 35 : Int32).toNatClampNeg ((vp_nar .boolean 0))
    rhck (0 ≤ (s7.1 102 35).toInt ∧ (s7.1 102 35).toInt < (2 : Nat)) <|
    let s8 := rysi s7 118 (s7.1 102 35 : Int32).toNatClampNeg ((vp_nar .boolean 0))
    rhck (0 ≤ (s8.1 102 35).toInt ∧ (s8.1 102 35).toInt < (2 : Nat)) <|
    let s9 := rysi s8 119 (s8.1 102 35 : Int32).toNatClampNeg ((vp_nar .boolean 0))
    let s10 := rysi s9 102 36 (500 * (s9.1 102 35))
    rhck (0 ≤ (s10.1 102 35).toInt ∧ (s10.1 102 35).toInt < (2 : Nat)) <|
    let s11 := rysi s10 111 (s10.1 102 35 : Int32).toNatClampNeg ((s10.1 102 36))
    let x12 := 64 * (s11.1 102 35)
    g_X12_clearBank_127 rhFU s11 x12
set_option maxHeartbeats 400000 in
set_option maxRecDepth 100000 in
theorem e_X12_clearBank_127 {Γ : rhG} {R : Nat → Nat → Nat} (hS : ShS Γ R) : ∀ (n : Nat) (s : ryS) (v1 : Int32), f_X12_clearBank_127 Γ n (ryM s R) 102 v1 = Option.map (fun s => ryM s R) (g_X12_clearBank_127 n s v1) := by
  intro n
  induction n with
  | zero => intros; simp only [f_X12_clearBank_127, g_X12_clearBank_127, Option.map_none]
  | succ n ih =>
    intros
    simp only [f_X12_clearBank_127, g_X12_clearBank_127, rhck, ryM_1, ryM_2, ryM_3, ry_si, ry_sl, if_true, ry_ck, Option.map_some, Option.map_none, ry_ite, ry_bm, ry_mb, Nat.add_assoc, Nat.reduceAdd, Option.some_bind, Option.bind_some, ssk_102 hS, ssk_116 hS, ssk_120 hS, ssl_116 hS, ssl_120 hS, ssr_102_22 hS, ssr_102_26 hS, ih]
set_option maxHeartbeats 400000 in
set_option maxRecDepth 100000 in
theorem e_X12_clearBank {Γ : rhG} {R : Nat → Nat → Nat} (hS : ShS Γ R) : ∀ (s : ryS), f_X12_clearBank Γ (ryM s R) 102 = Option.map (fun s => ryM s R) (g_X12_clearBank s) := by
  intros
  simp only [f_X12_clearBank, g_X12_clearBank, rhck, ryM_1, ryM_2, ryM_3, ry_si, ry_sl, if_true, ry_ck, Option.map_some, Option.map_none, ry_ite, ry_bm, ry_mb, Nat.add_assoc, Nat.reduceAdd, Option.some_bind, Option.bind_some, ssk_102 hS, ssk_105 hS, ssk_106 hS, ssk_107 hS, ssk_108 hS, ssk_109 hS, ssk_110 hS, ssk_111 hS, ssk_117 hS, ssk_118 hS, ssk_119 hS, ssl_105 hS, ssl_106 hS, ssl_107 hS, ssl_108 hS, ssl_109 hS, ssl_110 hS, ssl_111 hS, ssl_117 hS, ssl_118 hS, ssl_119 hS, ssr_102_11 hS, ssr_102_12 hS, ssr_102_13 hS, ssr_102_14 hS, ssr_102_15 hS, ssr_102_16 hS, ssr_102_17 hS, ssr_102_23 hS, ssr_102_24 hS, ssr_102_25 hS, e_X12_clearBank_127 hS]
def g_X12_here_34 (l1 : Nat) (k3 : Nat → Int32 → Int32 → Int32 → Option (Int32)) (s : ryS) (v1 : Nat) (v2 : Int32) (v3 : Int32) (v4 : Int32) : Option (Int32) :=
    let x1 : Int32 := v4 + 1
    k3 v1 v2 v3 x1
def g_X12_here_3 (l1 : Nat) (s : ryS) : Nat → Nat → Int32 → Int32 → Int32 → Option (Int32)
  | 0, _, _, _, _ => none
  | n + 1, v1, v2, v3, v4 =>
    if v4 < v3 then
      (if (s.1 102 8) = 2 then
        (rhck (0 ≤ (v2 + v4).toInt ∧ (v2 + v4).toInt < l1) <|
        if (s.2 v1 (v2 + v4).toNatClampNeg) = (s.2 102 10) then
          (some v4)
        else
          g_X12_here_34 l1 (g_X12_here_3 l1 s n) s v1 v2 v3 v4)
      else
        g_X12_here_34 l1 (g_X12_here_3 l1 s n) s v1 v2 v3 v4)
    else
      some ((-1))
def g_X12_here (l1 : Nat) (s : ryS) (v1 : Nat) (v2 : Int32) (v3 : Int32) : Option (Int32) :=
    g_X12_here_3 l1 s rhFU v1 v2 v3 0
set_option maxHeartbeats 400000 in
set_option maxRecDepth 100000 in
theorem e_X12_here_34 {Γ : rhG} {R : Nat → Nat → Nat} {l1 : Nat} {v1 : Nat} (hS : ShS Γ R) (ha_1 : Γ.2.2.1 v1 = 16 ∧ Γ.2.2.2 v1 = l1) {f3 : Nat → Nat → Int32 → Int32 → Int32 → Option (Int32)} {k3 : Nat → Int32 → Int32 → Int32 → Option (Int32)} (hk3 : ∀ (v1 : Nat) (v2 : Int32) (v3 : Int32) (v4 : Int32), f3 102 v1 v2 v3 v4 = k3 v1 v2 v3 v4) {s : ryS} : ∀ (v2 : Int32) (v3 : Int32) (v4 : Int32), f_X12_here_34 f3 Γ (ryM s R) 102 v1 v2 v3 v4 = g_X12_here_34 l1 k3 s v1 v2 v3 v4 := by
  intros
  simp only [f_X12_here_34, g_X12_here_34, rhck, ryM_1, ryM_2, ryM_3, ry_si, ry_sl, if_true, ry_ck, Option.map_some, Option.map_none, ry_ite, ry_bm, ry_mb, Nat.add_assoc, Nat.reduceAdd, Option.some_bind, Option.bind_some, hk3]
set_option maxHeartbeats 400000 in
set_option maxRecDepth 100000 in
theorem e_X12_here_3 {Γ : rhG} {R : Nat → Nat → Nat} {l1 : Nat} {v1 : Nat} (hS : ShS Γ R) (ha_1 : Γ.2.2.1 v1 = 16 ∧ Γ.2.2.2 v1 = l1) {s : ryS} : ∀ (n : Nat) (v2 : Int32) (v3 : Int32) (v4 : Int32), f_X12_here_3 Γ (ryM s R) n 102 v1 v2 v3 v4 = g_X12_here_3 l1 s n v1 v2 v3 v4 := by
  intro n
  induction n with
  | zero => intros; simp only [f_X12_here_3, g_X12_here_3, Option.map_none]
  | succ n ih =>
    intros
    simp only [f_X12_here_3, g_X12_here_3, rhck, ryM_1, ryM_2, ryM_3, ry_si, ry_sl, if_true, ry_ck, Option.map_some, Option.map_none, ry_ite, ry_bm, ry_mb, Nat.add_assoc, Nat.reduceAdd, Option.some_bind, Option.bind_some, ha_1.1, ha_1.2, ssk_102 hS, e_X12_here_34 hS ha_1 ih, ih]
set_option maxHeartbeats 400000 in
set_option maxRecDepth 100000 in
theorem e_X12_here {Γ : rhG} {R : Nat → Nat → Nat} {l1 : Nat} {v1 : Nat} (hS : ShS Γ R) (ha_1 : Γ.2.2.1 v1 = 16 ∧ Γ.2.2.2 v1 = l1) {s : ryS} : ∀ (v2 : Int32) (v3 : Int32), f_X12_here Γ (ryM s R) 102 v1 v2 v3 = g_X12_here l1 s v1 v2 v3 := by
  intros
  simp only [f_X12_here, g_X12_here, rhck, ryM_1, ryM_2, ryM_3, ry_si, ry_sl, if_true, ry_ck, Option.map_some, Option.map_none, ry_ite, ry_bm, ry_mb, Nat.add_assoc, Nat.reduceAdd, Option.some_bind, Option.bind_some, e_X12_here_3 hS ha_1]
def g_X12_houseHere (s : ryS) : Option (Int32) :=
    rhck (0 ≤ (s.1 102 35).toInt ∧ (s.1 102 35).toInt < (2 : Nat)) <|
    (g_X12_here (16 : Nat) s 122 (8 * (s.1 102 35)) (s.1 106 (s.1 102 35).toNatClampNeg)).bind fun r1 =>
    some r1
set_option maxHeartbeats 400000 in
set_option maxRecDepth 100000 in
theorem e_X12_houseHere {Γ : rhG} {R : Nat → Nat → Nat} (hS : ShS Γ R) {s : ryS} : f_X12_houseHere Γ (ryM s R) 102 = g_X12_houseHere s := by
  intros
  simp only [f_X12_houseHere, g_X12_houseHere, rhck, ryM_1, ryM_2, ryM_3, ry_si, ry_sl, if_true, ry_ck, Option.map_some, Option.map_none, ry_ite, ry_bm, ry_mb, Nat.add_assoc, Nat.reduceAdd, Option.some_bind, Option.bind_some, ssk_102 hS, ssk_106 hS, ssk_122 hS, ssl_106 hS, ssl_122 hS, ssr_102_12 hS, ssr_102_28 hS, e_X12_here hS ⟨ssk_122 hS, ssl_122 hS⟩]
def g_X12_known_48 (s : ryS) (v1 : Int32) : Option (Int32 × ryS) :=
    if v1 < 0 then
      (some ((0, s)))
    else
      some ((v1, s))
def g_X12_known_37 (s : ryS) (v1 : Int32) : Option (Int32 × ryS) :=
    (g_X12_isGood s).bind fun r3 =>
    if r3 = 0 then
      (g_X12_known_48 s v1)
    else
      (g_X12_goOn s).bind fun r4 =>
      g_X12_known_48 r4 v1
def g_X12_known (s : ryS) (v1 : Int32) : Option (Int32 × ryS) :=
    (g_X12_isGood s).bind fun r1 =>
    if r1 = 0 then
      (some ((0, s)))
    else
      if (s.1 102 8) = 2 then
        (if v1 < 0 then
          ((g_X12_fails s (5 : Int32) (s.1 102 6)).bind fun r2 =>
          g_X12_known_37 r2 v1)
        else
          g_X12_known_37 s v1)
      else
        (g_X12_misplaced s).bind fun r5 =>
        g_X12_known_37 r5 v1
set_option maxHeartbeats 400000 in
set_option maxRecDepth 100000 in
theorem e_X12_known_48 {Γ : rhG} {R : Nat → Nat → Nat} (hS : ShS Γ R) : ∀ (s : ryS) (v1 : Int32), f_X12_known_48 Γ (ryM s R) v1 = Option.map (fun q => (q.1, ryM q.2 R)) (g_X12_known_48 s v1) := by
  intros
  simp only [f_X12_known_48, g_X12_known_48, rhck, ryM_1, ryM_2, ryM_3, ry_si, ry_sl, if_true, ry_ck, Option.map_some, Option.map_none, ry_ite, ry_bm, ry_mb, Nat.add_assoc, Nat.reduceAdd, Option.some_bind, Option.bind_some]
set_option maxHeartbeats 400000 in
set_option maxRecDepth 100000 in
theorem e_X12_known_37 {Γ : rhG} {R : Nat → Nat → Nat} (hS : ShS Γ R) : ∀ (s : ryS) (v1 : Int32), f_X12_known_37 Γ (ryM s R) 102 v1 = Option.map (fun q => (q.1, ryM q.2 R)) (g_X12_known_37 s v1) := by
  intros
  simp only [f_X12_known_37, g_X12_known_37, rhck, ryM_1, ryM_2, ryM_3, ry_si, ry_sl, if_true, ry_ck, Option.map_some, Option.map_none, ry_ite, ry_bm, ry_mb, Nat.add_assoc, Nat.reduceAdd, Option.some_bind, Option.bind_some, ssk_102 hS, e_X12_isGood hS, e_X12_goOn hS, e_X12_known_48 hS]
set_option maxHeartbeats 400000 in
set_option maxRecDepth 100000 in
theorem e_X12_known {Γ : rhG} {R : Nat → Nat → Nat} (hS : ShS Γ R) : ∀ (s : ryS) (v1 : Int32), f_X12_known Γ (ryM s R) 102 v1 = Option.map (fun q => (q.1, ryM q.2 R)) (g_X12_known s v1) := by
  intros
  simp only [f_X12_known, g_X12_known, rhck, ryM_1, ryM_2, ryM_3, ry_si, ry_sl, if_true, ry_ck, Option.map_some, Option.map_none, ry_ite, ry_bm, ry_mb, Nat.add_assoc, Nat.reduceAdd, Option.some_bind, Option.bind_some, ssk_102 hS, e_X12_isGood hS, e_X12_fails hS, e_X12_misplaced hS, e_X12_known_37 hS]
def g_X12_wordHere (s : ryS) : Option (Int32) :=
    (g_X12_isWord s ((1835101817 : Int64))).bind fun r1 =>
    if r1 = 0 then
      ((g_X12_isWord s ((131277443786868 : Int64))).bind fun r2 =>
      if r2 = 0 then
        ((g_X12_isWord s ((119182899770472 : Int64))).bind fun r3 =>
        if r3 = 0 then
          ((g_X12_isWord s ((1718775661 : Int64))).bind fun r4 =>
          if r4 = 0 then
            ((g_X12_isWord s ((29807 : Int64))).bind fun r5 =>
            if r5 = 0 then
              ((g_X12_isWord s ((1919905645 : Int64))).bind fun r6 =>
              if r6 = 0 then
                ((g_X12_isWord s ((499850634611 : Int64))).bind fun r7 =>
                if r7 = 0 then
                  (some 0)
                else
                  some 104)
              else
                some 114)
            else
              some 116)
          else
            some 102)
        else
          some 108)
      else
        some 119)
    else
      some 109
set_option maxHeartbeats 400000 in
set_option maxRecDepth 100000 in
theorem e_X12_wordHere {Γ : rhG} {R : Nat → Nat → Nat} (hS : ShS Γ R) {s : ryS} : f_X12_wordHere Γ (ryM s R) 102 = g_X12_wordHere s := by
  intros
  simp only [f_X12_wordHere, g_X12_wordHere, rhck, ryM_1, ryM_2, ryM_3, ry_si, ry_sl, if_true, ry_ck, Option.map_some, Option.map_none, ry_ite, ry_bm, ry_mb, Nat.add_assoc, Nat.reduceAdd, Option.some_bind, Option.bind_some, ssk_102 hS, e_X12_isWord hS, e_X12_isWord hS, e_X12_isWord hS, e_X12_isWord hS, e_X12_isWord hS, e_X12_isWord hS, e_X12_isWord hS]
def g_X12_unit_55 (k56 : ryS → Int32 → Option (Int32 × ryS)) (s : ryS) : Option (Int32 × ryS) :=
    k56 s 0
def g_X12_unit_91 (k105 : ryS → Int32 → Int32 → Int32 → Option (Int32 × ryS)) (k122 : ryS → Int32 → Int32 → Int32 → Option (Int32 × ryS)) (s : ryS) (v2 : Int32) (v3 : Int32) (v4 : Int32) : Option (Int32 × ryS) :=
    rhck (0 ≤ (s.1 102 35).toInt ∧ (s.1 102 35).toInt < (2 : Nat)) <|
    if (s.1 108 (s.1 102 35).toNatClampNeg) = 40 then
      (k122 s v2 v3 v4)
    else
      k105 s v2 v3 v4
def g_X12_unit_113 (k122 : ryS → Int32 → Int32 → Int32 → Option (Int32 × ryS)) (k126 : ryS → Int32 → Int32 → Int32 → Option (Int32 × ryS)) (s : ryS) (v2 : Int32) (v3 : Int32) (v4 : Int32) : Option (Int32 × ryS) :=
    if (s.1 102 37) = 7 then
      (k122 s v2 v3 v4)
    else
      k126 s v2 v3 v4
def g_X12_unit_105 (k122 : ryS → Int32 → Int32 → Int32 → Option (Int32 × ryS)) (k126 : ryS → Int32 → Int32 → Int32 → Option (Int32 × ryS)) (s : ryS) (v2 : Int32) (v3 : Int32) (v4 : Int32) : Option (Int32 × ryS) :=
    if v2 = 0 then
      (if v3 = 0 then
        (k126 s v2 v3 v4)
      else
        g_X12_unit_113 k122 k126 s v2 v3 v4)
    else
      g_X12_unit_113 k122 k126 s v2 v3 v4
def g_X12_unit_122 (k126 : ryS → Int32 → Int32 → Int32 → Option (Int32 × ryS)) (s : ryS) (v2 : Int32) (v3 : Int32) (v4 : Int32) : Option (Int32 × ryS) :=
    (g_X12_misplaced s).bind fun r3 =>
    k126 r3 v2 v3 v4
def g_X12_unit_241 (s : ryS) (v5 : Int32) (w1 : Int32) : Option (Int32 × ryS) :=
    (g_X12_emit s w1 v5).bind fun r10 =>
    some ((0, r10))
def g_X12_unit_228 (s : ryS) (v4 : Int32) (v5 : Int32) : Option (Int32 × ryS) :=
    if v4 = 0 then
      (g_X12_unit_241 s v5 110)
    else
      g_X12_unit_241 s v5 v4
def g_X12_unit_194 (s : ryS) (w1 : Int32) : Option (Int32 × ryS) :=
    (g_X12_pushE s w1 (126 : Int32)).bind fun r11 =>
    let s12 := rysi r11 102 37 ((r11.1 102 37) + 1)
    some ((1, s12))
def g_X12_unit_183 (s : ryS) (v2 : Int32) : Option (Int32 × ryS) :=
    if v2 = 0 then
      (g_X12_unit_194 s 7)
    else
      g_X12_unit_194 s 3
def g_X12_unit_169 (s : ryS) (v2 : Int32) (v3 : Int32) (v4 : Int32) (w0 : Int32) : Option (Int32 × ryS) :=
    (g_X12_goOn s).bind fun r6 =>
    if v2 = 0 then
      (if v3 = 0 then
        (if v4 = 104 then
          ((g_X12_houseHere r6).bind fun r7 =>
          (g_X12_known r6 r7).bind fun r8 =>
          let x9 := r8.1
          g_X12_unit_228 r8.2 v4 x9)
        else
          g_X12_unit_228 r6 v4 w0)
      else
        g_X12_unit_183 r6 v2)
    else
      g_X12_unit_183 r6 v2
def g_X12_unit_154 (s : ryS) (v2 : Int32) (v3 : Int32) (v4 : Int32) (w1 : Int32) (w2 : Int32) (w3 : Int32) : Option (Int32 × ryS) :=
    rhck (0 ≤ (w1).toInt ∧ (w1).toInt < (2 : Nat)) <|
    let s5 := rysi s 108 (w1 : Int32).toNatClampNeg ((w2 + w3))
    if v4 = 0 then
      (g_X12_unit_169 s5 v2 v3 v4 (s5.1 102 9))
    else
      g_X12_unit_169 s5 v2 v3 v4 0
def g_X12_unit_126 (s : ryS) (v2 : Int32) (v3 : Int32) (v4 : Int32) : Option (Int32 × ryS) :=
    (g_X12_isGood s).bind fun r4 =>
    if r4 = 0 then
      (some ((1, s)))
    else
      rhck (0 ≤ (s.1 102 35).toInt ∧ (s.1 102 35).toInt < (2 : Nat)) <|
      if v2 = 0 then
        (g_X12_unit_154 s v2 v3 v4 (s.1 102 35) (s.1 108 (s.1 102 35).toNatClampNeg) 1)
      else
        g_X12_unit_154 s v2 v3 v4 (s.1 102 35) (s.1 108 (s.1 102 35).toNatClampNeg) 0
def g_X12_unit_56 (s : ryS) (w0 : Int32) : Option (Int32 × ryS) :=
    (g_X12_stands s (40 : Int32)).bind fun r1 =>
    (g_X12_wordHere s).bind fun r2 =>
    if w0 = 0 then
      (if r2 = 0 then
        (if (s.1 102 8) = 4 then
          (g_X12_unit_91 (g_X12_unit_105 (g_X12_unit_122 (g_X12_unit_126)) (g_X12_unit_126)) (g_X12_unit_122 (g_X12_unit_126)) s w0 r1 r2)
        else
          if r1 = 0 then
            (g_X12_unit_122 (g_X12_unit_126) s w0 r1 r2)
          else
            g_X12_unit_91 (g_X12_unit_105 (g_X12_unit_122 (g_X12_unit_126)) (g_X12_unit_126)) (g_X12_unit_122 (g_X12_unit_126)) s w0 r1 r2)
      else
        g_X12_unit_91 (g_X12_unit_105 (g_X12_unit_122 (g_X12_unit_126)) (g_X12_unit_126)) (g_X12_unit_122 (g_X12_unit_126)) s w0 r1 r2)
    else
      g_X12_unit_105 (g_X12_unit_122 (g_X12_unit_126)) (g_X12_unit_126) s w0 r1 r2
def g_X12_unit_36 (s : ryS) (w0 : Int32) : Option (Int32 × ryS) :=
    if w0 = 0 then
      (g_X12_unit_55 (g_X12_unit_56) s)
    else
      (g_X12_isWord s ((7237492 : Int64))).bind fun r13 =>
      if r13 = 0 then
        (g_X12_unit_55 (g_X12_unit_56) s)
      else
        g_X12_unit_56 s 1
def g_X12_unit_31 (k36 : ryS → Int32 → Option (Int32 × ryS)) (s : ryS) : Option (Int32 × ryS) :=
    k36 s 1
def g_X12_unit (s : ryS) : Option (Int32 × ryS) :=
    rhck (0 ≤ ((s.1 102 38) - 1).toInt ∧ ((s.1 102 38) - 1).toInt < (90 : Nat)) <|
    if 3 < (s.1 125 ((s.1 102 38) - 1).toNatClampNeg) then
      (if (s.1 125 ((s.1 102 38) - 1).toNatClampNeg) < 7 then
        (g_X12_unit_36 s 0)
      else
        g_X12_unit_31 (g_X12_unit_36) s)
    else
      g_X12_unit_31 (g_X12_unit_36) s
set_option maxHeartbeats 400000 in
set_option maxRecDepth 100000 in
theorem e_X12_unit_55 {Γ : rhG} {R : Nat → Nat → Nat} (hS : ShS Γ R) {f56 : rhM → Nat → Int32 → Option (Int32 × rhM)} {k56 : ryS → Int32 → Option (Int32 × ryS)} (hk56 : ∀ (s : ryS) (w0 : Int32), f56 (ryM s R) 102 w0 = Option.map (fun q => (q.1, ryM q.2 R)) (k56 s w0)) : ∀ (s : ryS), f_X12_unit_55 f56 Γ (ryM s R) 102 = Option.map (fun q => (q.1, ryM q.2 R)) (g_X12_unit_55 k56 s) := by
  intros
  simp only [f_X12_unit_55, g_X12_unit_55, rhck, ryM_1, ryM_2, ryM_3, ry_si, ry_sl, if_true, ry_ck, Option.map_some, Option.map_none, ry_ite, ry_bm, ry_mb, Nat.add_assoc, Nat.reduceAdd, Option.some_bind, Option.bind_some, hk56]
set_option maxHeartbeats 400000 in
set_option maxRecDepth 100000 in
theorem e_X12_unit_91 {Γ : rhG} {R : Nat → Nat → Nat} (hS : ShS Γ R) {f105 : rhM → Nat → Int32 → Int32 → Int32 → Option (Int32 × rhM)} {k105 : ryS → Int32 → Int32 → Int32 → Option (Int32 × ryS)} {f122 : rhM → Nat → Int32 → Int32 → Int32 → Option (Int32 × rhM)} {k122 : ryS → Int32 → Int32 → Int32 → Option (Int32 × ryS)} (hk105 : ∀ (s : ryS) (v2 : Int32) (v3 : Int32) (v4 : Int32), f105 (ryM s R) 102 v2 v3 v4 = Option.map (fun q => (q.1, ryM q.2 R)) (k105 s v2 v3 v4)) (hk122 : ∀ (s : ryS) (v2 : Int32) (v3 : Int32) (v4 : Int32), f122 (ryM s R) 102 v2 v3 v4 = Option.map (fun q => (q.1, ryM q.2 R)) (k122 s v2 v3 v4)) : ∀ (s : ryS) (v2 : Int32) (v3 : Int32) (v4 : Int32), f_X12_unit_91 f105 f122 Γ (ryM s R) 102 v2 v3 v4 = Option.map (fun q => (q.1, ryM q.2 R)) (g_X12_unit_91 k105 k122 s v2 v3 v4) := by
  intros
  simp only [f_X12_unit_91, g_X12_unit_91, rhck, ryM_1, ryM_2, ryM_3, ry_si, ry_sl, if_true, ry_ck, Option.map_some, Option.map_none, ry_ite, ry_bm, ry_mb, Nat.add_assoc, Nat.reduceAdd, Option.some_bind, Option.bind_some, ssk_102 hS, ssk_108 hS, ssl_108 hS, ssr_102_14 hS, hk105, hk122]
set_option maxHeartbeats 400000 in
set_option maxRecDepth 100000 in
theorem e_X12_unit_113 {Γ : rhG} {R : Nat → Nat → Nat} (hS : ShS Γ R) {f122 : rhM → Nat → Int32 → Int32 → Int32 → Option (Int32 × rhM)} {k122 : ryS → Int32 → Int32 → Int32 → Option (Int32 × ryS)} {f126 : rhM → Nat → Int32 → Int32 → Int32 → Option (Int32 × rhM)} {k126 : ryS → Int32 → Int32 → Int32 → Option (Int32 × ryS)} (hk122 : ∀ (s : ryS) (v2 : Int32) (v3 : Int32) (v4 : Int32), f122 (ryM s R) 102 v2 v3 v4 = Option.map (fun q => (q.1, ryM q.2 R)) (k122 s v2 v3 v4)) (hk126 : ∀ (s : ryS) (v2 : Int32) (v3 : Int32) (v4 : Int32), f126 (ryM s R) 102 v2 v3 v4 = Option.map (fun q => (q.1, ryM q.2 R)) (k126 s v2 v3 v4)) : ∀ (s : ryS) (v2 : Int32) (v3 : Int32) (v4 : Int32), f_X12_unit_113 f122 f126 Γ (ryM s R) 102 v2 v3 v4 = Option.map (fun q => (q.1, ryM q.2 R)) (g_X12_unit_113 k122 k126 s v2 v3 v4) := by
  intros
  simp only [f_X12_unit_113, g_X12_unit_113, rhck, ryM_1, ryM_2, ryM_3, ry_si, ry_sl, if_true, ry_ck, Option.map_some, Option.map_none, ry_ite, ry_bm, ry_mb, Nat.add_assoc, Nat.reduceAdd, Option.some_bind, Option.bind_some, ssk_102 hS, hk122, hk126]
set_option maxHeartbeats 400000 in
set_option maxRecDepth 100000 in
theorem e_X12_unit_105 {Γ : rhG} {R : Nat → Nat → Nat} (hS : ShS Γ R) {f122 : rhM → Nat → Int32 → Int32 → Int32 → Option (Int32 × rhM)} {k122 : ryS → Int32 → Int32 → Int32 → Option (Int32 × ryS)} {f126 : rhM → Nat → Int32 → Int32 → Int32 → Option (Int32 × rhM)} {k126 : ryS → Int32 → Int32 → Int32 → Option (Int32 × ryS)} (hk122 : ∀ (s : ryS) (v2 : Int32) (v3 : Int32) (v4 : Int32), f122 (ryM s R) 102 v2 v3 v4 = Option.map (fun q => (q.1, ryM q.2 R)) (k122 s v2 v3 v4)) (hk126 : ∀ (s : ryS) (v2 : Int32) (v3 : Int32) (v4 : Int32), f126 (ryM s R) 102 v2 v3 v4 = Option.map (fun q => (q.1, ryM q.2 R)) (k126 s v2 v3 v4)) : ∀ (s : ryS) (v2 : Int32) (v3 : Int32) (v4 : Int32), f_X12_unit_105 f122 f126 Γ (ryM s R) 102 v2 v3 v4 = Option.map (fun q => (q.1, ryM q.2 R)) (g_X12_unit_105 k122 k126 s v2 v3 v4) := by
  intros
  simp only [f_X12_unit_105, g_X12_unit_105, rhck, ryM_1, ryM_2, ryM_3, ry_si, ry_sl, if_true, ry_ck, Option.map_some, Option.map_none, ry_ite, ry_bm, ry_mb, Nat.add_assoc, Nat.reduceAdd, Option.some_bind, Option.bind_some, hk122, hk126, e_X12_unit_113 hS hk122 hk126]
set_option maxHeartbeats 400000 in
set_option maxRecDepth 100000 in
theorem e_X12_unit_122 {Γ : rhG} {R : Nat → Nat → Nat} (hS : ShS Γ R) {f126 : rhM → Nat → Int32 → Int32 → Int32 → Option (Int32 × rhM)} {k126 : ryS → Int32 → Int32 → Int32 → Option (Int32 × ryS)} (hk126 : ∀ (s : ryS) (v2 : Int32) (v3 : Int32) (v4 : Int32), f126 (ryM s R) 102 v2 v3 v4 = Option.map (fun q => (q.1, ryM q.2 R)) (k126 s v2 v3 v4)) : ∀ (s : ryS) (v2 : Int32) (v3 : Int32) (v4 : Int32), f_X12_unit_122 f126 Γ (ryM s R) 102 v2 v3 v4 = Option.map (fun q => (q.1, ryM q.2 R)) (g_X12_unit_122 k126 s v2 v3 v4) := by
  intros
  simp only [f_X12_unit_122, g_X12_unit_122, rhck, ryM_1, ryM_2, ryM_3, ry_si, ry_sl, if_true, ry_ck, Option.map_some, Option.map_none, ry_ite, ry_bm, ry_mb, Nat.add_assoc, Nat.reduceAdd, Option.some_bind, Option.bind_some, ssk_102 hS, e_X12_misplaced hS, hk126]
set_option maxHeartbeats 400000 in
set_option maxRecDepth 100000 in
theorem e_X12_unit_241 {Γ : rhG} {R : Nat → Nat → Nat} (hS : ShS Γ R) : ∀ (s : ryS) (v5 : Int32) (w1 : Int32), f_X12_unit_241 Γ (ryM s R) v5 102 w1 = Option.map (fun q => (q.1, ryM q.2 R)) (g_X12_unit_241 s v5 w1) := by
  intros
  simp only [f_X12_unit_241, g_X12_unit_241, rhck, ryM_1, ryM_2, ryM_3, ry_si, ry_sl, if_true, ry_ck, Option.map_some, Option.map_none, ry_ite, ry_bm, ry_mb, Nat.add_assoc, Nat.reduceAdd, Option.some_bind, Option.bind_some, ssk_102 hS, e_X12_emit hS]
set_option maxHeartbeats 400000 in
set_option maxRecDepth 100000 in
theorem e_X12_unit_228 {Γ : rhG} {R : Nat → Nat → Nat} (hS : ShS Γ R) : ∀ (s : ryS) (v4 : Int32) (v5 : Int32), f_X12_unit_228 Γ (ryM s R) 102 v4 v5 = Option.map (fun q => (q.1, ryM q.2 R)) (g_X12_unit_228 s v4 v5) := by
  intros
  simp only [f_X12_unit_228, g_X12_unit_228, rhck, ryM_1, ryM_2, ryM_3, ry_si, ry_sl, if_true, ry_ck, Option.map_some, Option.map_none, ry_ite, ry_bm, ry_mb, Nat.add_assoc, Nat.reduceAdd, Option.some_bind, Option.bind_some, e_X12_unit_241 hS]
set_option maxHeartbeats 400000 in
set_option maxRecDepth 100000 in
theorem e_X12_unit_194 {Γ : rhG} {R : Nat → Nat → Nat} (hS : ShS Γ R) : ∀ (s : ryS) (w1 : Int32), f_X12_unit_194 Γ (ryM s R) 102 102 w1 = Option.map (fun q => (q.1, ryM q.2 R)) (g_X12_unit_194 s w1) := by
  intros
  simp only [f_X12_unit_194, g_X12_unit_194, rhck, ryM_1, ryM_2, ryM_3, ry_si, ry_sl, if_true, ry_ck, Option.map_some, Option.map_none, ry_ite, ry_bm, ry_mb, Nat.add_assoc, Nat.reduceAdd, Option.some_bind, Option.bind_some, ssk_102 hS, e_X12_pushE hS]
set_option maxHeartbeats 400000 in
set_option maxRecDepth 100000 in
theorem e_X12_unit_183 {Γ : rhG} {R : Nat → Nat → Nat} (hS : ShS Γ R) : ∀ (s : ryS) (v2 : Int32), f_X12_unit_183 Γ (ryM s R) 102 v2 = Option.map (fun q => (q.1, ryM q.2 R)) (g_X12_unit_183 s v2) := by
  intros
  simp only [f_X12_unit_183, g_X12_unit_183, rhck, ryM_1, ryM_2, ryM_3, ry_si, ry_sl, if_true, ry_ck, Option.map_some, Option.map_none, ry_ite, ry_bm, ry_mb, Nat.add_assoc, Nat.reduceAdd, Option.some_bind, Option.bind_some, e_X12_unit_194 hS]
set_option maxHeartbeats 400000 in
set_option maxRecDepth 100000 in
theorem e_X12_unit_169 {Γ : rhG} {R : Nat → Nat → Nat} (hS : ShS Γ R) : ∀ (s : ryS) (v2 : Int32) (v3 : Int32) (v4 : Int32) (w0 : Int32), f_X12_unit_169 Γ (ryM s R) 102 v2 v3 v4 w0 = Option.map (fun q => (q.1, ryM q.2 R)) (g_X12_unit_169 s v2 v3 v4 w0) := by
  intros
  simp only [f_X12_unit_169, g_X12_unit_169, rhck, ryM_1, ryM_2, ryM_3, ry_si, ry_sl, if_true, ry_ck, Option.map_some, Option.map_none, ry_ite, ry_bm, ry_mb, Nat.add_assoc, Nat.reduceAdd, Option.some_bind, Option.bind_some, ssk_102 hS, e_X12_goOn hS, e_X12_houseHere hS, e_X12_known hS, e_X12_unit_228 hS, e_X12_unit_183 hS]
set_option maxHeartbeats 400000 in
set_option maxRecDepth 100000 in
theorem e_X12_unit_154 {Γ : rhG} {R : Nat → Nat → Nat} (hS : ShS Γ R) : ∀ (s : ryS) (v2 : Int32) (v3 : Int32) (v4 : Int32) (w1 : Int32) (w2 : Int32) (w3 : Int32), f_X12_unit_154 Γ (ryM s R) 102 v2 v3 v4 108 w1 w2 w3 = Option.map (fun q => (q.1, ryM q.2 R)) (g_X12_unit_154 s v2 v3 v4 w1 w2 w3) := by
  intros
  simp only [f_X12_unit_154, g_X12_unit_154, rhck, ryM_1, ryM_2, ryM_3, ry_si, ry_sl, if_true, ry_ck, Option.map_some, Option.map_none, ry_ite, ry_bm, ry_mb, Nat.add_assoc, Nat.reduceAdd, Option.some_bind, Option.bind_some, ssk_102 hS, ssk_108 hS, ssl_108 hS, e_X12_unit_169 hS]
set_option maxHeartbeats 400000 in
set_option maxRecDepth 100000 in
theorem e_X12_unit_126 {Γ : rhG} {R : Nat → Nat → Nat} (hS : ShS Γ R) : ∀ (s : ryS) (v2 : Int32) (v3 : Int32) (v4 : Int32), f_X12_unit_126 Γ (ryM s R) 102 v2 v3 v4 = Option.map (fun q => (q.1, ryM q.2 R)) (g_X12_unit_126 s v2 v3 v4) := by
  intros
  simp only [f_X12_unit_126, g_X12_unit_126, rhck, ryM_1, ryM_2, ryM_3, ry_si, ry_sl, if_true, ry_ck, Option.map_some, Option.map_none, ry_ite, ry_bm, ry_mb, Nat.add_assoc, Nat.reduceAdd, Option.some_bind, Option.bind_some, ssk_102 hS, ssk_108 hS, ssl_108 hS, ssr_102_14 hS, e_X12_isGood hS, e_X12_unit_154 hS]
set_option maxHeartbeats 400000 in
set_option maxRecDepth 100000 in
theorem e_X12_unit_56 {Γ : rhG} {R : Nat → Nat → Nat} (hS : ShS Γ R) : ∀ (s : ryS) (w0 : Int32), f_X12_unit_56 Γ (ryM s R) 102 w0 = Option.map (fun q => (q.1, ryM q.2 R)) (g_X12_unit_56 s w0) := by
  intros
  simp only [f_X12_unit_56, g_X12_unit_56, rhck, ryM_1, ryM_2, ryM_3, ry_si, ry_sl, if_true, ry_ck, Option.map_some, Option.map_none, ry_ite, ry_bm, ry_mb, Nat.add_assoc, Nat.reduceAdd, Option.some_bind, Option.bind_some, ssk_102 hS, e_X12_stands hS, e_X12_wordHere hS, e_X12_unit_91 hS (e_X12_unit_105 hS (e_X12_unit_122 hS (e_X12_unit_126 hS)) (e_X12_unit_126 hS)) (e_X12_unit_122 hS (e_X12_unit_126 hS)), e_X12_unit_105 hS (e_X12_unit_122 hS (e_X12_unit_126 hS)) (e_X12_unit_126 hS), e_X12_unit_122 hS (e_X12_unit_126 hS), e_X12_unit_126 hS]
set_option maxHeartbeats 400000 in
set_option maxRecDepth 100000 in
theorem e_X12_unit_36 {Γ : rhG} {R : Nat → Nat → Nat} (hS : ShS Γ R) : ∀ (s : ryS) (w0 : Int32), f_X12_unit_36 Γ (ryM s R) 102 w0 = Option.map (fun q => (q.1, ryM q.2 R)) (g_X12_unit_36 s w0) := by
  intros
  simp only [f_X12_unit_36, g_X12_unit_36, rhck, ryM_1, ryM_2, ryM_3, ry_si, ry_sl, if_true, ry_ck, Option.map_some, Option.map_none, ry_ite, ry_bm, ry_mb, Nat.add_assoc, Nat.reduceAdd, Option.some_bind, Option.bind_some, ssk_102 hS, e_X12_isWord hS, e_X12_unit_55 hS (e_X12_unit_56 hS), e_X12_unit_56 hS]
set_option maxHeartbeats 400000 in
set_option maxRecDepth 100000 in
theorem e_X12_unit_31 {Γ : rhG} {R : Nat → Nat → Nat} (hS : ShS Γ R) {f36 : rhM → Nat → Int32 → Option (Int32 × rhM)} {k36 : ryS → Int32 → Option (Int32 × ryS)} (hk36 : ∀ (s : ryS) (w0 : Int32), f36 (ryM s R) 102 w0 = Option.map (fun q => (q.1, ryM q.2 R)) (k36 s w0)) : ∀ (s : ryS), f_X12_unit_31 f36 Γ (ryM s R) 102 = Option.map (fun q => (q.1, ryM q.2 R)) (g_X12_unit_31 k36 s) := by
  intros
  simp only [f_X12_unit_31, g_X12_unit_31, rhck, ryM_1, ryM_2, ryM_3, ry_si, ry_sl, if_true, ry_ck, Option.map_some, Option.map_none, ry_ite, ry_bm, ry_mb, Nat.add_assoc, Nat.reduceAdd, Option.some_bind, Option.bind_some, hk36]
set_option maxHeartbeats 400000 in
set_option maxRecDepth 100000 in
theorem e_X12_unit {Γ : rhG} {R : Nat → Nat → Nat} (hS : ShS Γ R) : ∀ (s : ryS), f_X12_unit Γ (ryM s R) 102 = Option.map (fun q => (q.1, ryM q.2 R)) (g_X12_unit s) := by
  intros
  simp only [f_X12_unit, g_X12_unit, rhck, ryM_1, ryM_2, ryM_3, ry_si, ry_sl, if_true, ry_ck, Option.map_some, Option.map_none, ry_ite, ry_bm, ry_mb, Nat.add_assoc, Nat.reduceAdd, Option.some_bind, Option.bind_some, ssk_102 hS, ssk_125 hS, ssl_125 hS, ssr_102_31 hS, e_X12_unit_36 hS, e_X12_unit_31 hS (e_X12_unit_36 hS)]
def g_X12_e_48 (k19 : ryS → Int32 → Option (ryS)) (s : ryS) (w0 : Int32) : Option (ryS) :=
    k19 s w0
def g_X12_e_19 : Nat → ryS → Int32 → Option (ryS)
  | 0, _, _ => none
  | n + 1, s, v1 =>
    (g_X12_isGood s).bind fun r4 =>
    if r4 = 0 then
      (some s)
    else
      if 0 < (s.1 102 38) then
        (if v1 = 0 then
          ((g_X12_behindUnit s).bind fun r5 =>
          g_X12_e_48 (g_X12_e_19 n) r5.2 r5.1)
        else
          (g_X12_unit s).bind fun r6 =>
          g_X12_e_48 (g_X12_e_19 n) r6.2 r6.1)
      else
        some s
def g_X12_e (s : ryS) : Option (ryS) :=
    let s1 := rysi s 102 38 0
    let s2 := rysi s1 102 37 0
    (g_X12_pushE s2 (8 : Int32) (0 : Int32)).bind fun r3 =>
    g_X12_e_19 rhFU r3 1
set_option maxHeartbeats 400000 in
set_option maxRecDepth 100000 in
theorem e_X12_e_48 {Γ : rhG} {R : Nat → Nat → Nat} (hS : ShS Γ R) {f19 : rhM → Nat → Int32 → Option (rhM)} {k19 : ryS → Int32 → Option (ryS)} (hk19 : ∀ (s : ryS) (v1 : Int32), f19 (ryM s R) 102 v1 = Option.map (fun s => ryM s R) (k19 s v1)) : ∀ (s : ryS) (w0 : Int32), f_X12_e_48 f19 Γ (ryM s R) 102 w0 = Option.map (fun s => ryM s R) (g_X12_e_48 k19 s w0) := by
  intros
  simp only [f_X12_e_48, g_X12_e_48, rhck, ryM_1, ryM_2, ryM_3, ry_si, ry_sl, if_true, ry_ck, Option.map_some, Option.map_none, ry_ite, ry_bm, ry_mb, Nat.add_assoc, Nat.reduceAdd, Option.some_bind, Option.bind_some, hk19]
set_option maxHeartbeats 400000 in
set_option maxRecDepth 100000 in
theorem e_X12_e_19 {Γ : rhG} {R : Nat → Nat → Nat} (hS : ShS Γ R) : ∀ (n : Nat) (s : ryS) (v1 : Int32), f_X12_e_19 Γ n (ryM s R) 102 v1 = Option.map (fun s => ryM s R) (g_X12_e_19 n s v1) := by
  intro n
  induction n with
  | zero => intros; simp only [f_X12_e_19, g_X12_e_19, Option.map_none]
  | succ n ih =>
    intros
    simp only [f_X12_e_19, g_X12_e_19, rhck, ryM_1, ryM_2, ryM_3, ry_si, ry_sl, if_true, ry_ck, Option.map_some, Option.map_none, ry_ite, ry_bm, ry_mb, Nat.add_assoc, Nat.reduceAdd, Option.some_bind, Option.bind_some, ssk_102 hS, e_X12_isGood hS, e_X12_behindUnit hS, e_X12_unit hS, e_X12_e_48 hS ih, ih]
set_option maxHeartbeats 400000 in
set_option maxRecDepth 100000 in
theorem e_X12_e {Γ : rhG} {R : Nat → Nat → Nat} (hS : ShS Γ R) : ∀ (s : ryS), f_X12_e Γ (ryM s R) 102 = Option.map (fun s => ryM s R) (g_X12_e s) := by
  intros
  simp only [f_X12_e, g_X12_e, rhck, ryM_1, ryM_2, ryM_3, ry_si, ry_sl, if_true, ry_ck, Option.map_some, Option.map_none, ry_ite, ry_bm, ry_mb, Nat.add_assoc, Nat.reduceAdd, Option.some_bind, Option.bind_some, ssk_102 hS, e_X12_pushE hS, e_X12_e_19 hS]
def g_X12_end (s : ryS) (v1 : Int32) : Option (Int32 × ryS) :=
    if v1 < 0 then
      (some (((-1), s)))
    else
      if (s.1 102 2) < v1 then
        (some (((-1), s)))
      else
        let s1 := rysi s 102 2 v1
        some ((v1, s1))
set_option maxHeartbeats 400000 in
set_option maxRecDepth 100000 in
theorem e_X12_end {Γ : rhG} {R : Nat → Nat → Nat} (hS : ShS Γ R) : ∀ (s : ryS) (v1 : Int32), f_X12_end Γ (ryM s R) 102 v1 = Option.map (fun q => (q.1, ryM q.2 R)) (g_X12_end s v1) := by
  intros
  simp only [f_X12_end, g_X12_end, rhck, ryM_1, ryM_2, ryM_3, ry_si, ry_sl, if_true, ry_ck, Option.map_some, Option.map_none, ry_ite, ry_bm, ry_mb, Nat.add_assoc, Nat.reduceAdd, Option.some_bind, Option.bind_some, ssk_102 hS]
def g_X12_fault (s : ryS) (v1 : Int32) : Option (Int32) :=
    if v1 = 0 then
      (some (s.1 102 4))
    else
      if v1 = 1 then
        (some (s.1 102 5))
      else
        some ((-1))
set_option maxHeartbeats 400000 in
set_option maxRecDepth 100000 in
theorem e_X12_fault {Γ : rhG} {R : Nat → Nat → Nat} (hS : ShS Γ R) {s : ryS} : ∀ (v1 : Int32), f_X12_fault Γ (ryM s R) 102 v1 = g_X12_fault s v1 := by
  intros
  simp only [f_X12_fault, g_X12_fault, rhck, ryM_1, ryM_2, ryM_3, ry_si, ry_sl, if_true, ry_ck, Option.map_some, Option.map_none, ry_ite, ry_bm, ry_mb, Nat.add_assoc, Nat.reduceAdd, Option.some_bind, Option.bind_some, ssk_102 hS]
def g_X12_feed_71 (k18 : ryS → Int32 → Int32 → Int32 → Int32 → Int32 → Int32 → Option (Int32 × ryS)) (s : ryS) (v1 : Int32) (v2 : Int32) (v3 : Int32) (v4 : Int32) (v5 : Int32) (v6 : Int32) (w0 : Int32) : Option (Int32 × ryS) :=
    rhck (0 ≤ ((s.1 102 2) + v6).toInt ∧ ((s.1 102 2) + v6).toInt < (1620 : Nat)) <|
    let s1 := rysi s 103 ((s.1 102 2) + v6 : Int32).toNatClampNeg ((vp_nar .byte ((w0 >>> ((24 - (8 * (v6 &&& 3))) &&& 31)).toInt8.toInt32)))
    let x2 : Int32 := v6 + 1
    k18 s1 v1 v2 v3 v4 v5 x2
def g_X12_feed_18 (k105 : ryS → Option (Int32 × ryS)) : Nat → ryS → Int32 → Int32 → Int32 → Int32 → Int32 → Int32 → Option (Int32 × ryS)
  | 0, _, _, _, _, _, _, _ => none
  | n + 1, s, v1, v2, v3, v4, v5, v6 =>
    if v6 < 20 then
      (if v6 < 4 then
        (g_X12_feed_71 (g_X12_feed_18 k105 n) s v1 v2 v3 v4 v5 v6 v1)
      else
        if v6 < 8 then
          (g_X12_feed_71 (g_X12_feed_18 k105 n) s v1 v2 v3 v4 v5 v6 v2)
        else
          if v6 < 12 then
            (g_X12_feed_71 (g_X12_feed_18 k105 n) s v1 v2 v3 v4 v5 v6 v3)
          else
            if v6 < 16 then
              (g_X12_feed_71 (g_X12_feed_18 k105 n) s v1 v2 v3 v4 v5 v6 v4)
            else
              g_X12_feed_71 (g_X12_feed_18 k105 n) s v1 v2 v3 v4 v5 v6 v5)
    else
      k105 s
def g_X12_feed_105 (s : ryS) : Option (Int32 × ryS) :=
    let s3 := rysi s 102 2 ((s.1 102 2) + 20)
    some ((s3.1 102 2, s3))
def g_X12_feed (s : ryS) (v1 : Int32) (v2 : Int32) (v3 : Int32) (v4 : Int32) (v5 : Int32) : Option (Int32 × ryS) :=
    if 1600 < ((s.1 102 2) + 20) then
      (some (((-1), s)))
    else
      g_X12_feed_18 (g_X12_feed_105) rhFU s v1 v2 v3 v4 v5 0
set_option maxHeartbeats 400000 in
set_option maxRecDepth 100000 in
theorem e_X12_feed_71 {Γ : rhG} {R : Nat → Nat → Nat} (hS : ShS Γ R) {f18 : rhM → Nat → Int32 → Int32 → Int32 → Int32 → Int32 → Int32 → Option (Int32 × rhM)} {k18 : ryS → Int32 → Int32 → Int32 → Int32 → Int32 → Int32 → Option (Int32 × ryS)} (hk18 : ∀ (s : ryS) (v1 : Int32) (v2 : Int32) (v3 : Int32) (v4 : Int32) (v5 : Int32) (v6 : Int32), f18 (ryM s R) 102 v1 v2 v3 v4 v5 v6 = Option.map (fun q => (q.1, ryM q.2 R)) (k18 s v1 v2 v3 v4 v5 v6)) : ∀ (s : ryS) (v1 : Int32) (v2 : Int32) (v3 : Int32) (v4 : Int32) (v5 : Int32) (v6 : Int32) (w0 : Int32), f_X12_feed_71 f18 Γ (ryM s R) 102 v1 v2 v3 v4 v5 v6 w0 = Option.map (fun q => (q.1, ryM q.2 R)) (g_X12_feed_71 k18 s v1 v2 v3 v4 v5 v6 w0) := by
  intros
  simp only [f_X12_feed_71, g_X12_feed_71, rhck, ryM_1, ryM_2, ryM_3, ry_si, ry_sl, if_true, ry_ck, Option.map_some, Option.map_none, ry_ite, ry_bm, ry_mb, Nat.add_assoc, Nat.reduceAdd, Option.some_bind, Option.bind_some, ssk_102 hS, ssk_103 hS, ssl_103 hS, ssr_102_0 hS, hk18]
set_option maxHeartbeats 400000 in
set_option maxRecDepth 100000 in
theorem e_X12_feed_18 {Γ : rhG} {R : Nat → Nat → Nat} (hS : ShS Γ R) {f105 : rhM → Nat → Option (Int32 × rhM)} {k105 : ryS → Option (Int32 × ryS)} (hk105 : ∀ (s : ryS), f105 (ryM s R) 102 = Option.map (fun q => (q.1, ryM q.2 R)) (k105 s)) : ∀ (n : Nat) (s : ryS) (v1 : Int32) (v2 : Int32) (v3 : Int32) (v4 : Int32) (v5 : Int32) (v6 : Int32), f_X12_feed_18 f105 Γ n (ryM s R) 102 v1 v2 v3 v4 v5 v6 = Option.map (fun q => (q.1, ryM q.2 R)) (g_X12_feed_18 k105 n s v1 v2 v3 v4 v5 v6) := by
  intro n
  induction n with
  | zero => intros; simp only [f_X12_feed_18, g_X12_feed_18, Option.map_none]
  | succ n ih =>
    intros
    simp only [f_X12_feed_18, g_X12_feed_18, rhck, ryM_1, ryM_2, ryM_3, ry_si, ry_sl, if_true, ry_ck, Option.map_some, Option.map_none, ry_ite, ry_bm, ry_mb, Nat.add_assoc, Nat.reduceAdd, Option.some_bind, Option.bind_some, hk105, e_X12_feed_71 hS ih, ih]
set_option maxHeartbeats 400000 in
set_option maxRecDepth 100000 in
theorem e_X12_feed_105 {Γ : rhG} {R : Nat → Nat → Nat} (hS : ShS Γ R) : ∀ (s : ryS), f_X12_feed_105 Γ (ryM s R) 102 = Option.map (fun q => (q.1, ryM q.2 R)) (g_X12_feed_105 s) := by
  intros
  simp only [f_X12_feed_105, g_X12_feed_105, rhck, ryM_1, ryM_2, ryM_3, ry_si, ry_sl, if_true, ry_ck, Option.map_some, Option.map_none, ry_ite, ry_bm, ry_mb, Nat.add_assoc, Nat.reduceAdd, Option.some_bind, Option.bind_some, ssk_102 hS]
set_option maxHeartbeats 400000 in
set_option maxRecDepth 100000 in
theorem e_X12_feed {Γ : rhG} {R : Nat → Nat → Nat} (hS : ShS Γ R) : ∀ (s : ryS) (v1 : Int32) (v2 : Int32) (v3 : Int32) (v4 : Int32) (v5 : Int32), f_X12_feed Γ (ryM s R) 102 v1 v2 v3 v4 v5 = Option.map (fun q => (q.1, ryM q.2 R)) (g_X12_feed s v1 v2 v3 v4 v5) := by
  intros
  simp only [f_X12_feed, g_X12_feed, rhck, ryM_1, ryM_2, ryM_3, ry_si, ry_sl, if_true, ry_ck, Option.map_some, Option.map_none, ry_ite, ry_bm, ry_mb, Nat.add_assoc, Nat.reduceAdd, Option.some_bind, Option.bind_some, ssk_102 hS, e_X12_feed_18 hS (e_X12_feed_105 hS), e_X12_feed_105 hS]
