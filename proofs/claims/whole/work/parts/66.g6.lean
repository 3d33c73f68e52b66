def g_X12_isMany (s : ryS) : Option (Int32) :=
    (g_X12_houseMany s).bind fun r1 =>
    if 6 < r1 then
      (some 1)
    else
      (g_X12_railMany s).bind fun r2 =>
      if 4 < r2 then
        (some 1)
      else
        some 0
set_option maxHeartbeats 400000 in
set_option maxRecDepth 100000 in
theorem e_X12_isMany {Γ : rhG} {R : Nat → Nat → Nat} (hS : ShS Γ R) {s : ryS} : f_X12_isMany Γ (ryM s R) 102 = g_X12_isMany s := by
  intros
  simp only [f_X12_isMany, g_X12_isMany, rhck, ryM_1, ryM_2, ryM_3, ry_si, ry_sl, if_true, ry_ck, Option.map_some, Option.map_none, ry_ite, ry_bm, ry_mb, Nat.add_assoc, Nat.reduceAdd, Option.some_bind, Option.bind_some, ssk_102 hS, e_X12_houseMany hS, e_X12_railMany hS]
def g_X12_layWay_17 : Nat → ryS → Int32 → Int32 → Option (ryS)
  | 0, _, _, _ => none
  | n + 1, s, v2, v3 =>
    rhck (0 ≤ (v3).toInt ∧ (v3).toInt < (246960 : Nat)) <|
    if (s.1 138 v3.toNatClampNeg) < 0 then
      (some s)
    else
      let x3 : Int32 := v2 + (-1)
      rhck (0 ≤ (v3).toInt ∧ (v3).toInt < (246960 : Nat)) <|
      rhck (0 ≤ (x3).toInt ∧ (x3).toInt < (61000 : Nat)) <|
      let s4 := rysi s 145 (x3 : Int32).toNatClampNeg ((s.1 137 v3.toNatClampNeg))
      let x5 := s4.1 138 v3.toNatClampNeg
      g_X12_layWay_17 n s4 x3 x5
def g_X12_layWay (s : ryS) (v1 : Int32) : Option (ryS) :=
    rhck (0 ≤ (v1).toInt ∧ (v1).toInt < (246960 : Nat)) <|
    let s1 := rysi s 102 66 (s.1 139 v1.toNatClampNeg)
    let x2 := s1.1 102 66
    g_X12_layWay_17 rhFU s1 x2 v1
set_option maxHeartbeats 400000 in
set_option maxRecDepth 100000 in
theorem e_X12_layWay_17 {Γ : rhG} {R : Nat → Nat → Nat} (hS : ShS Γ R) : ∀ (n : Nat) (s : ryS) (v2 : Int32) (v3 : Int32), f_X12_layWay_17 Γ n (ryM s R) 102 v2 v3 = Option.map (fun s => ryM s R) (g_X12_layWay_17 n s v2 v3) := by
  intro n
  induction n with
  | zero => intros; simp only [f_X12_layWay_17, g_X12_layWay_17, Option.map_none]
  | succ n ih =>
    intros
    simp only [f_X12_layWay_17, g_X12_layWay_17, rhck, ryM_1, ryM_2, ryM_3, ry_si, ry_sl, if_true, ry_ck, Option.map_some, Option.map_none, ry_ite, ry_bm, ry_mb, Nat.add_assoc, Nat.reduceAdd, Option.some_bind, Option.bind_some, ssk_102 hS, ssk_137 hS, ssk_138 hS, ssk_145 hS, ssl_137 hS, ssl_138 hS, ssl_145 hS, ssr_102_54 hS, ssr_102_55 hS, ssr_102_65 hS, ih]
set_option maxHeartbeats 400000 in
set_option maxRecDepth 100000 in
theorem e_X12_layWay {Γ : rhG} {R : Nat → Nat → Nat} (hS : ShS Γ R) : ∀ (s : ryS) (v1 : Int32), f_X12_layWay Γ (ryM s R) 102 v1 = Option.map (fun s => ryM s R) (g_X12_layWay s v1) := by
  intros
  simp only [f_X12_layWay, g_X12_layWay, rhck, ryM_1, ryM_2, ryM_3, ry_si, ry_sl, if_true, ry_ck, Option.map_some, Option.map_none, ry_ite, ry_bm, ry_mb, Nat.add_assoc, Nat.reduceAdd, Option.some_bind, Option.bind_some, ssk_102 hS, ssk_139 hS, ssl_139 hS, ssr_102_56 hS, e_X12_layWay_17 hS]
def g_X12_isFree_16 (k36 : Int32 → Option (Int32)) (k64 : Int32 → Int32 → Option (Int32)) (s : ryS) : Nat → Int32 → Int32 → Int32 → Option (Int32)
  | 0, _, _, _ => none
  | n + 1, v1, v2, v3 =>
    rhck (0 ≤ (v2).toInt ∧ (v2).toInt < (6 : Nat)) <|
    if v3 < (s.1 129 v2.toNatClampNeg) then
      (rhck (0 ≤ (v3).toInt ∧ (v3).toInt < (8 : Nat)) <|
      if (s.1 128 v3.toNatClampNeg) = v1 then
        (k36 v2)
      else
        let x3 : Int32 := v3 + 1
        g_X12_isFree_16 k36 k64 s n v1 v2 x3)
    else
      k64 v1 v2
def g_X12_isFree_64 (k2 : Int32 → Int32 → Option (Int32)) (s : ryS) (v1 : Int32) (v2 : Int32) : Option (Int32) :=
    let x4 : Int32 := v2 + 1
    k2 v1 x4
def g_X12_isFree_2 (k36 : Int32 → Option (Int32)) (s : ryS) : Nat → Int32 → Int32 → Option (Int32)
  | 0, _, _ => none
  | n + 1, v1, v2 =>
    (g_X12_railMany s).bind fun r1 =>
    if v2 < r1 then
      ((g_X12_beginOf s v2).bind fun r2 =>
      g_X12_isFree_16 k36 (g_X12_isFree_64 (g_X12_isFree_2 k36 s n) s) s rhFU v1 v2 r2)
    else
      some 1
def g_X12_isFree_36 (s : ryS) (v2 : Int32) : Option (Int32) :=
    rhck (0 ≤ (v2).toInt ∧ (v2).toInt < (6 : Nat)) <|
    (g_X12_beginOf s v2).bind fun r5 =>
    if ((s.1 129 v2.toNatClampNeg) - r5) = 1 then
      (some 1)
    else
      some 0
def g_X12_isFree (s : ryS) (v1 : Int32) : Option (Int32) :=
    g_X12_isFree_2 (g_X12_isFree_36 s) s rhFU v1 0
set_option maxHeartbeats 400000 in
set_option maxRecDepth 100000 in
theorem e_X12_isFree_16 {Γ : rhG} {R : Nat → Nat → Nat} (hS : ShS Γ R) {f36 : Nat → Int32 → Option (Int32)} {k36 : Int32 → Option (Int32)} {f64 : Nat → Int32 → Int32 → Option (Int32)} {k64 : Int32 → Int32 → Option (Int32)} (hk36 : ∀ (v2 : Int32), f36 102 v2 = k36 v2) (hk64 : ∀ (v1 : Int32) (v2 : Int32), f64 102 v1 v2 = k64 v1 v2) {s : ryS} : ∀ (n : Nat) (v1 : Int32) (v2 : Int32) (v3 : Int32), f_X12_isFree_16 f36 f64 Γ (ryM s R) n 102 v1 v2 v3 = g_X12_isFree_16 k36 k64 s n v1 v2 v3 := by
  intro n
  induction n with
  | zero => intros; simp only [f_X12_isFree_16, g_X12_isFree_16, Option.map_none]
  | succ n ih =>
    intros
    simp only [f_X12_isFree_16, g_X12_isFree_16, rhck, ryM_1, ryM_2, ryM_3, ry_si, ry_sl, if_true, ry_ck, Option.map_some, Option.map_none, ry_ite, ry_bm, ry_mb, Nat.add_assoc, Nat.reduceAdd, Option.some_bind, Option.bind_some, ssk_102 hS, ssk_128 hS, ssk_129 hS, ssl_128 hS, ssl_129 hS, ssr_102_39 hS, ssr_102_40 hS, hk36, hk64, ih]
set_option maxHeartbeats 400000 in
set_option maxRecDepth 100000 in
theorem e_X12_isFree_64 {Γ : rhG} {R : Nat → Nat → Nat} (hS : ShS Γ R) {f2 : Nat → Int32 → Int32 → Option (Int32)} {k2 : Int32 → Int32 → Option (Int32)} (hk2 : ∀ (v1 : Int32) (v2 : Int32), f2 102 v1 v2 = k2 v1 v2) {s : ryS} : ∀ (v1 : Int32) (v2 : Int32), f_X12_isFree_64 f2 Γ (ryM s R) 102 v1 v2 = g_X12_isFree_64 k2 s v1 v2 := by
  intros
  simp only [f_X12_isFree_64, g_X12_isFree_64, rhck, ryM_1, ryM_2, ryM_3, ry_si, ry_sl, if_true, ry_ck, Option.map_some, Option.map_none, ry_ite, ry_bm, ry_mb, Nat.add_assoc, Nat.reduceAdd, Option.some_bind, Option.bind_some, hk2]
set_option maxHeartbeats 400000 in
set_option maxRecDepth 100000 in
theorem e_X12_isFree_2 {Γ : rhG} {R : Nat → Nat → Nat} (hS : ShS Γ R) {f36 : Nat → Int32 → Option (Int32)} {k36 : Int32 → Option (Int32)} (hk36 : ∀ (v2 : Int32), f36 102 v2 = k36 v2) {s : ryS} : ∀ (n : Nat) (v1 : Int32) (v2 : Int32), f_X12_isFree_2 f36 Γ (ryM s R) n 102 v1 v2 = g_X12_isFree_2 k36 s n v1 v2 := by
  intro n
  induction n with
  | zero => intros; simp only [f_X12_isFree_2, g_X12_isFree_2, Option.map_none]
  | succ n ih =>
    intros
    simp only [f_X12_isFree_2, g_X12_isFree_2, rhck, ryM_1, ryM_2, ryM_3, ry_si, ry_sl, if_true, ry_ck, Option.map_some, Option.map_none, ry_ite, ry_bm, ry_mb, Nat.add_assoc, Nat.reduceAdd, Option.some_bind, Option.bind_some, ssk_102 hS, e_X12_railMany hS, e_X12_beginOf hS, hk36, e_X12_isFree_16 hS hk36 (e_X12_isFree_64 hS ih), e_X12_isFree_64 hS ih, ih]
set_option maxHeartbeats 400000 in
set_option maxRecDepth 100000 in
theorem e_X12_isFree_36 {Γ : rhG} {R : Nat → Nat → Nat} (hS : ShS Γ R) {s : ryS} : ∀ (v2 : Int32), f_X12_isFree_36 Γ (ryM s R) 102 v2 = g_X12_isFree_36 s v2 := by
  intros
  simp only [f_X12_isFree_36, g_X12_isFree_36, rhck, ryM_1, ryM_2, ryM_3, ry_si, ry_sl, if_true, ry_ck, Option.map_some, Option.map_none, ry_ite, ry_bm, ry_mb, Nat.add_assoc, Nat.reduceAdd, Option.some_bind, Option.bind_some, ssk_102 hS, ssk_129 hS, ssl_129 hS, ssr_102_40 hS, e_X12_beginOf hS]
set_option maxHeartbeats 400000 in
set_option maxRecDepth 100000 in
theorem e_X12_isFree {Γ : rhG} {R : Nat → Nat → Nat} (hS : ShS Γ R) {s : ryS} : ∀ (v1 : Int32), f_X12_isFree Γ (ryM s R) 102 v1 = g_X12_isFree s v1 := by
  intros
  simp only [f_X12_isFree, g_X12_isFree, rhck, ryM_1, ryM_2, ryM_3, ry_si, ry_sl, if_true, ry_ck, Option.map_some, Option.map_none, ry_ite, ry_bm, ry_mb, Nat.add_assoc, Nat.reduceAdd, Option.some_bind, Option.bind_some, e_X12_isFree_2 hS (e_X12_isFree_36 hS), e_X12_isFree_36 hS]
def g_X12_isEnd_58 (s : ryS) : Nat → Int32 → Option (Int32)
  | 0, _ => none
  | n + 1, v1 =>
    if v1 < (s.1 102 53) then
      (rhck (0 ≤ (v1).toInt ∧ (v1).toInt < (8 : Nat)) <|
      rhck (0 ≤ (v1).toInt ∧ (v1).toInt < (8 : Nat)) <|
      if (s.1 128 v1.toNatClampNeg) = (s.1 136 v1.toNatClampNeg) then
        (let x3 : Int32 := v1 + 1
        g_X12_isEnd_58 s n x3)
      else
        some 0)
    else
      some 1
def g_X12_isEnd_56 (s : ryS) : Option (Int32) :=
    g_X12_isEnd_58 s rhFU 0
def g_X12_isEnd (s : ryS) : Option (Int32) :=
    if (s.1 102 61) = 2 then
      (some 0)
    else
      if (s.1 102 61) = 1 then
        ((g_X12_isFree s (s.1 102 62)).bind fun r1 =>
        rhck (r1 = 0 ∨ r1 = 1) <|
        some r1)
      else
        if 0 < (s.1 102 53) then
          ((g_X12_railMany s).bind fun r2 =>
          if r2 = 0 then
            (some 0)
          else
            rhck (0 ≤ (0 : Int32).toInt ∧ (0 : Int32).toInt < (6 : Nat)) <|
            if (s.1 129 (0 : Int32).toNatClampNeg) < (s.1 102 53) then
              (some 0)
            else
              g_X12_isEnd_56 s)
        else
          g_X12_isEnd_56 s
set_option maxHeartbeats 400000 in
set_option maxRecDepth 100000 in
theorem e_X12_isEnd_58 {Γ : rhG} {R : Nat → Nat → Nat} (hS : ShS Γ R) {s : ryS} : ∀ (n : Nat) (v1 : Int32), f_X12_isEnd_58 Γ (ryM s R) n 102 v1 = g_X12_isEnd_58 s n v1 := by
  intro n
  induction n with
  | zero => intros; simp only [f_X12_isEnd_58, g_X12_isEnd_58, Option.map_none]
  | succ n ih =>
    intros
    simp only [f_X12_isEnd_58, g_X12_isEnd_58, rhck, ryM_1, ryM_2, ryM_3, ry_si, ry_sl, if_true, ry_ck, Option.map_some, Option.map_none, ry_ite, ry_bm, ry_mb, Nat.add_assoc, Nat.reduceAdd, Option.some_bind, Option.bind_some, ssk_102 hS, ssk_128 hS, ssk_136 hS, ssl_128 hS, ssl_136 hS, ssr_102_39 hS, ssr_102_52 hS, ih]
set_option maxHeartbeats 400000 in
set_option maxRecDepth 100000 in
theorem e_X12_isEnd_56 {Γ : rhG} {R : Nat → Nat → Nat} (hS : ShS Γ R) {s : ryS} : f_X12_isEnd_56 Γ (ryM s R) 102 = g_X12_isEnd_56 s := by
  intros
  simp only [f_X12_isEnd_56, g_X12_isEnd_56, rhck, ryM_1, ryM_2, ryM_3, ry_si, ry_sl, if_true, ry_ck, Option.map_some, Option.map_none, ry_ite, ry_bm, ry_mb, Nat.add_assoc, Nat.reduceAdd, Option.some_bind, Option.bind_some, e_X12_isEnd_58 hS]
set_option maxHeartbeats 400000 in
set_option maxRecDepth 100000 in
theorem e_X12_isEnd {Γ : rhG} {R : Nat → Nat → Nat} (hS : ShS Γ R) {s : ryS} : f_X12_isEnd Γ (ryM s R) 102 = g_X12_isEnd s := by
  intros
  simp only [f_X12_isEnd, g_X12_isEnd, rhck, ryM_1, ryM_2, ryM_3, ry_si, ry_sl, if_true, ry_ck, Option.map_some, Option.map_none, ry_ite, ry_bm, ry_mb, Nat.add_assoc, Nat.reduceAdd, Option.some_bind, Option.bind_some, ssk_102 hS, ssk_129 hS, ssl_129 hS, ssr_102_40 hS, e_X12_isFree hS, e_X12_railMany hS, e_X12_isEnd_56 hS]
def g_X12_layState_10 (k37 : ryS → Int32 → Int32 → Option (ryS)) : Nat → ryS → Int32 → Int32 → Int32 → Option (ryS)
  | 0, _, _, _, _ => none
  | n + 1, s, v2, v3, v4 =>
    if v4 < 0 then
      (k37 s v2 v3)
    else
      rhck (0 ≤ (v4).toInt ∧ (v4).toInt < (6 : Nat)) <|
      let s2 := rysi s 129 (v4 : Int32).toNatClampNeg ((v3 - v3 / 7 * 7))
      let x3 := v3 / 7
      let x4 : Int32 := v4 + (-1)
      g_X12_layState_10 k37 n s2 v2 x3 x4
def g_X12_layState_60 (k91 : ryS → Int32 → Int32 → Option (ryS)) : Nat → ryS → Int32 → Int32 → Int32 → Int32 → Option (ryS)
  | 0, _, _, _, _, _ => none
  | n + 1, s, v2, v3, v4, v5 =>
    if v5 < 0 then
      (k91 s v2 v4)
    else
      rhck (¬ (v2 - v5) = 0) <|
      rhck (0 ≤ (v5).toInt ∧ (v5).toInt < (8 : Nat)) <|
      let s8 := rysi s 130 (v5 : Int32).toNatClampNeg ((v3 - v3 / (v2 - v5) * (v2 - v5)))
      rhck (¬ (v2 - v5) = 0) <|
      let x9 := v3 / (v2 - v5)
      let x10 : Int32 := v5 + (-1)
      g_X12_layState_60 k91 n s8 v2 x9 v4 x10
def g_X12_layState_146 (k112 : ryS → Int32 → Int32 → Int32 → Int32 → Int32 → Option (ryS)) (s : ryS) (v2 : Int32) (v4 : Int32) (v5 : Int32) (v6 : Int32) (w0 : Int32) (w1 : Int32) : Option (ryS) :=
    let x12 := w0 - w1
    let x13 : Int32 := v6 + 1
    k112 s v2 v4 v5 x13 x12
def g_X12_layState_128 (k112 : ryS → Int32 → Int32 → Int32 → Int32 → Int32 → Option (ryS)) (s : ryS) (v2 : Int32) (v4 : Int32) (v5 : Int32) (v6 : Int32) (v7 : Int32) : Option (ryS) :=
    if ((v4 >>> (v6 &&& 31)) &&& 1) = 1 then
      (g_X12_layState_146 k112 s v2 v4 v5 v6 v7 0)
    else
      g_X12_layState_146 k112 s v2 v4 v5 v6 v7 1
def g_X12_layState_112 (k155 : ryS → Int32 → Int32 → Int32 → Int32 → Option (ryS)) : Nat → ryS → Int32 → Int32 → Int32 → Int32 → Int32 → Option (ryS)
  | 0, _, _, _, _, _, _ => none
  | n + 1, s, v2, v4, v5, v6, v7 =>
    if ((v4 >>> (v6 &&& 31)) &&& 1) = 1 then
      (g_X12_layState_128 (g_X12_layState_112 k155 n) s v2 v4 v5 v6 v7)
    else
      if 0 < v7 then
        (g_X12_layState_128 (g_X12_layState_112 k155 n) s v2 v4 v5 v6 v7)
      else
        k155 s v2 v4 v5 v6
def g_X12_layState_155 (k94 : ryS → Int32 → Int32 → Int32 → Option (ryS)) (s : ryS) (v2 : Int32) (v4 : Int32) (v5 : Int32) (v6 : Int32) : Option (ryS) :=
    rhck (0 ≤ (v5).toInt ∧ (v5).toInt < (8 : Nat)) <|
    let s14 := rysi s 128 (v5 : Int32).toNatClampNeg v6
    let x15 := v4 ||| (1 <<< (v6 &&& 31))
    let x16 : Int32 := v5 + 1
    k94 s14 v2 x15 x16
def g_X12_layState_94 : Nat → ryS → Int32 → Int32 → Int32 → Option (ryS)
  | 0, _, _, _, _ => none
  | n + 1, s, v2, v4, v5 =>
    if v5 < v2 then
      (rhck (0 ≤ (v5).toInt ∧ (v5).toInt < (8 : Nat)) <|
      let x11 := s.1 130 v5.toNatClampNeg
      g_X12_layState_112 (g_X12_layState_155 (g_X12_layState_94 n)) rhFU s v2 v4 v5 0 x11)
    else
      some s
def g_X12_layState_91 (s : ryS) (v2 : Int32) (v4 : Int32) : Option (ryS) :=
    g_X12_layState_94 rhFU s v2 v4 0
def g_X12_layState_52 (s : ryS) (v2 : Int32) (v3 : Int32) : Option (ryS) :=
    let x7 := v2 - 1
    g_X12_layState_60 (g_X12_layState_91) rhFU s v2 v3 0 x7
def g_X12_layState_37 (s : ryS) (v2 : Int32) (v3 : Int32) : Option (ryS) :=
    (g_X12_railMany s).bind fun r5 =>
    if 3 < r5 then
      (rhck (0 ≤ (3 : Int32).toInt ∧ (3 : Int32).toInt < (6 : Nat)) <|
      let s6 := rysi s 129 (3 : Int32).toNatClampNeg v2
      g_X12_layState_52 s6 v2 v3)
    else
      g_X12_layState_52 s v2 v3
def g_X12_layState (s : ryS) (v1 : Int32) : Option (ryS) :=
    (g_X12_houseMany s).bind fun r1 =>
    g_X12_layState_10 (g_X12_layState_37) rhFU s r1 v1 2
set_option maxHeartbeats 400000 in
set_option maxRecDepth 100000 in
theorem e_X12_layState_10 {Γ : rhG} {R : Nat → Nat → Nat} (hS : ShS Γ R) {f37 : rhM → Nat → Int32 → Int32 → Option (rhM)} {k37 : ryS → Int32 → Int32 → Option (ryS)} (hk37 : ∀ (s : ryS) (v2 : Int32) (v3 : Int32), f37 (ryM s R) 102 v2 v3 = Option.map (fun s => ryM s R) (k37 s v2 v3)) : ∀ (n : Nat) (s : ryS) (v2 : Int32) (v3 : Int32) (v4 : Int32), f_X12_layState_10 f37 Γ n (ryM s R) 102 v2 v3 v4 = Option.map (fun s => ryM s R) (g_X12_layState_10 k37 n s v2 v3 v4) := by
  intro n
  induction n with
  | zero => intros; simp only [f_X12_layState_10, g_X12_layState_10, Option.map_none]
  | succ n ih =>
    intros
    simp only [f_X12_layState_10, g_X12_layState_10, rhck, ryM_1, ryM_2, ryM_3, ry_si, ry_sl, if_true, ry_ck, Option.map_some, Option.map_none, ry_ite, ry_bm, ry_mb, Nat.add_assoc, Nat.reduceAdd, Option.some_bind, Option.bind_some, ssk_102 hS, ssk_129 hS, ssl_129 hS, ssr_102_40 hS, hk37, ih]
set_option maxHeartbeats 400000 in
set_option maxRecDepth 100000 in
theorem e_X12_layState_60 {Γ : rhG} {R : Nat → Nat → Nat} (hS : ShS Γ R) {f91 : rhM → Nat → Int32 → Int32 → Option (rhM)} {k91 : ryS → Int32 → Int32 → Option (ryS)} (hk91 : ∀ (s : ryS) (v2 : Int32) (v4 : Int32), f91 (ryM s R) 102 v2 v4 = Option.map (fun s => ryM s R) (k91 s v2 v4)) : ∀ (n : Nat) (s : ryS) (v2 : Int32) (v3 : Int32) (v4 : Int32) (v5 : Int32), f_X12_layState_60 f91 Γ n (ryM s R) 102 v2 v3 v4 v5 = Option.map (fun s => ryM s R) (g_X12_layState_60 k91 n s v2 v3 v4 v5) := by
  intro n
  induction n with
  | zero => intros; simp only [f_X12_layState_60, g_X12_layState_60, Option.map_none]
  | succ n ih =>
    intros
    simp only [f_X12_layState_60, g_X12_layState_60, rhck, ryM_1, ryM_2, ryM_3, ry_si, ry_sl, if_true, ry_ck, Option.map_some, Option.map_none, ry_ite, ry_bm, ry_mb, Nat.add_assoc, Nat.reduceAdd, Option.some_bind, Option.bind_some, ssk_102 hS, ssk_130 hS, ssl_130 hS, ssr_102_41 hS, hk91, ih]
set_option maxHeartbeats 400000 in
set_option maxRecDepth 100000 in
theorem e_X12_layState_146 {Γ : rhG} {R : Nat → Nat → Nat} (hS : ShS Γ R) {f112 : rhM → Nat → Int32 → Int32 → Int32 → Int32 → Int32 → Option (rhM)} {k112 : ryS → Int32 → Int32 → Int32 → Int32 → Int32 → Option (ryS)} (hk112 : ∀ (s : ryS) (v2 : Int32) (v4 : Int32) (v5 : Int32) (v6 : Int32) (v7 : Int32), f112 (ryM s R) 102 v2 v4 v5 v6 v7 = Option.map (fun s => ryM s R) (k112 s v2 v4 v5 v6 v7)) : ∀ (s : ryS) (v2 : Int32) (v4 : Int32) (v5 : Int32) (v6 : Int32) (w0 : Int32) (w1 : Int32), f_X12_layState_146 f112 Γ (ryM s R) 102 v2 v4 v5 v6 w0 w1 = Option.map (fun s => ryM s R) (g_X12_layState_146 k112 s v2 v4 v5 v6 w0 w1) := by
  intros
  simp only [f_X12_layState_146, g_X12_layState_146, rhck, ryM_1, ryM_2, ryM_3, ry_si, ry_sl, if_true, ry_ck, Option.map_some, Option.map_none, ry_ite, ry_bm, ry_mb, Nat.add_assoc, Nat.reduceAdd, Option.some_bind, Option.bind_some, hk112]
set_option maxHeartbeats 400000 in
set_option maxRecDepth 100000 in
theorem e_X12_layState_128 {Γ : rhG} {R : Nat → Nat → Nat} (hS : ShS Γ R) {f112 : rhM → Nat → Int32 → Int32 → Int32 → Int32 → Int32 → Option (rhM)} {k112 : ryS → Int32 → Int32 → Int32 → Int32 → Int32 → Option (ryS)} (hk112 : ∀ (s : ryS) (v2 : Int32) (v4 : Int32) (v5 : Int32) (v6 : Int32) (v7 : Int32), f112 (ryM s R) 102 v2 v4 v5 v6 v7 = Option.map (fun s => ryM s R) (k112 s v2 v4 v5 v6 v7)) : ∀ (s : ryS) (v2 : Int32) (v4 : Int32) (v5 : Int32) (v6 : Int32) (v7 : Int32), f_X12_layState_128 f112 Γ (ryM s R) 102 v2 v4 v5 v6 v7 = Option.map (fun s => ryM s R) (g_X12_layState_128 k112 s v2 v4 v5 v6 v7) := by
  intros
  simp only [f_X12_layState_128, g_X12_layState_128, rhck, ryM_1, ryM_2, ryM_3, ry_si, ry_sl, if_true, ry_ck, Option.map_some, Option.map_none, ry_ite, ry_bm, ry_mb, Nat.add_assoc, Nat.reduceAdd, Option.some_bind, Option.bind_some, hk112, e_X12_layState_146 hS hk112]
set_option maxHeartbeats 400000 in
set_option maxRecDepth 100000 in
theorem e_X12_layState_112 {Γ : rhG} {R : Nat → Nat → Nat} (hS : ShS Γ R) {f155 : rhM → Nat → Int32 → Int32 → Int32 → Int32 → Option (rhM)} {k155 : ryS → Int32 → Int32 → Int32 → Int32 → Option (ryS)} (hk155 : ∀ (s : ryS) (v2 : Int32) (v4 : Int32) (v5 : Int32) (v6 : Int32), f155 (ryM s R) 102 v2 v4 v5 v6 = Option.map (fun s => ryM s R) (k155 s v2 v4 v5 v6)) : ∀ (n : Nat) (s : ryS) (v2 : Int32) (v4 : Int32) (v5 : Int32) (v6 : Int32) (v7 : Int32), f_X12_layState_112 f155 Γ n (ryM s R) 102 v2 v4 v5 v6 v7 = Option.map (fun s => ryM s R) (g_X12_layState_112 k155 n s v2 v4 v5 v6 v7) := by
  intro n
  induction n with
  | zero => intros; simp only [f_X12_layState_112, g_X12_layState_112, Option.map_none]
  | succ n ih =>
    intros
    simp only [f_X12_layState_112, g_X12_layState_112, rhck, ryM_1, ryM_2, ryM_3, ry_si, ry_sl, if_true, ry_ck, Option.map_some, Option.map_none, ry_ite, ry_bm, ry_mb, Nat.add_assoc, Nat.reduceAdd, Option.some_bind, Option.bind_some, hk155, e_X12_layState_128 hS ih, ih]
set_option maxHeartbeats 400000 in
set_option maxRecDepth 100000 in
theorem e_X12_layState_155 {Γ : rhG} {R : Nat → Nat → Nat} (hS : ShS Γ R) {f94 : rhM → Nat → Int32 → Int32 → Int32 → Option (rhM)} {k94 : ryS → Int32 → Int32 → Int32 → Option (ryS)} (hk94 : ∀ (s : ryS) (v2 : Int32) (v4 : Int32) (v5 : Int32), f94 (ryM s R) 102 v2 v4 v5 = Option.map (fun s => ryM s R) (k94 s v2 v4 v5)) : ∀ (s : ryS) (v2 : Int32) (v4 : Int32) (v5 : Int32) (v6 : Int32), f_X12_layState_155 f94 Γ (ryM s R) 102 v2 v4 v5 v6 = Option.map (fun s => ryM s R) (g_X12_layState_155 k94 s v2 v4 v5 v6) := by
  intros
  simp only [f_X12_layState_155, g_X12_layState_155, rhck, ryM_1, ryM_2, ryM_3, ry_si, ry_sl, if_true, ry_ck, Option.map_some, Option.map_none, ry_ite, ry_bm, ry_mb, Nat.add_assoc, Nat.reduceAdd, Option.some_bind, Option.bind_some, ssk_102 hS, ssk_128 hS, ssl_128 hS, ssr_102_39 hS, hk94]
set_option maxHeartbeats 400000 in
set_option maxRecDepth 100000 in
theorem e_X12_layState_94 {Γ : rhG} {R : Nat → Nat → Nat} (hS : ShS Γ R) : ∀ (n : Nat) (s : ryS) (v2 : Int32) (v4 : Int32) (v5 : Int32), f_X12_layState_94 Γ n (ryM s R) 102 v2 v4 v5 = Option.map (fun s => ryM s R) (g_X12_layState_94 n s v2 v4 v5) := by
  intro n
  induction n with
  | zero => intros; simp only [f_X12_layState_94, g_X12_layState_94, Option.map_none]
  | succ n ih =>
    intros
    simp only [f_X12_layState_94, g_X12_layState_94, rhck, ryM_1, ryM_2, ryM_3, ry_si, ry_sl, if_true, ry_ck, Option.map_some, Option.map_none, ry_ite, ry_bm, ry_mb, Nat.add_assoc, Nat.reduceAdd, Option.some_bind, Option.bind_some, ssk_102 hS, ssk_130 hS, ssl_130 hS, ssr_102_41 hS, e_X12_layState_112 hS (e_X12_layState_155 hS ih), e_X12_layState_155 hS ih, ih]
set_option maxHeartbeats 400000 in
set_option maxRecDepth 100000 in
theorem e_X12_layState_91 {Γ : rhG} {R : Nat → Nat → Nat} (hS : ShS Γ R) : ∀ (s : ryS) (v2 : Int32) (v4 : Int32), f_X12_layState_91 Γ (ryM s R) 102 v2 v4 = Option.map (fun s => ryM s R) (g_X12_layState_91 s v2 v4) := by
  intros
  simp only [f_X12_layState_91, g_X12_layState_91, rhck, ryM_1, ryM_2, ryM_3, ry_si, ry_sl, if_true, ry_ck, Option.map_some, Option.map_none, ry_ite, ry_bm, ry_mb, Nat.add_assoc, Nat.reduceAdd, Option.some_bind, Option.bind_some, e_X12_layState_94 hS]
set_option maxHeartbeats 400000 in
set_option maxRecDepth 100000 in
theorem e_X12_layState_52 {Γ : rhG} {R : Nat → Nat → Nat} (hS : ShS Γ R) : ∀ (s : ryS) (v2 : Int32) (v3 : Int32), f_X12_layState_52 Γ (ryM s R) 102 v2 v3 = Option.map (fun s => ryM s R) (g_X12_layState_52 s v2 v3) := by
  intros
  simp only [f_X12_layState_52, g_X12_layState_52, rhck, ryM_1, ryM_2, ryM_3, ry_si, ry_sl, if_true, ry_ck, Option.map_some, Option.map_none, ry_ite, ry_bm, ry_mb, Nat.add_assoc, Nat.reduceAdd, Option.some_bind, Option.bind_some, e_X12_layState_60 hS (e_X12_layState_91 hS), e_X12_layState_91 hS]
set_option maxHeartbeats 400000 in
set_option maxRecDepth 100000 in
theorem e_X12_layState_37 {Γ : rhG} {R : Nat → Nat → Nat} (hS : ShS Γ R) : ∀ (s : ryS) (v2 : Int32) (v3 : Int32), f_X12_layState_37 Γ (ryM s R) 102 v2 v3 = Option.map (fun s => ryM s R) (g_X12_layState_37 s v2 v3) := by
  intros
  simp only [f_X12_layState_37, g_X12_layState_37, rhck, ryM_1, ryM_2, ryM_3, ry_si, ry_sl, if_true, ry_ck, Option.map_some, Option.map_none, ry_ite, ry_bm, ry_mb, Nat.add_assoc, Nat.reduceAdd, Option.some_bind, Option.bind_some, ssk_102 hS, ssk_129 hS, ssl_129 hS, ssr_102_40 hS, e_X12_railMany hS, e_X12_layState_52 hS]
set_option maxHeartbeats 400000 in
set_option maxRecDepth 100000 in
theorem e_X12_layState {Γ : rhG} {R : Nat → Nat → Nat} (hS : ShS Γ R) : ∀ (s : ryS) (v1 : Int32), f_X12_layState Γ (ryM s R) 102 v1 = Option.map (fun s => ryM s R) (g_X12_layState s v1) := by
  intros
  simp only [f_X12_layState, g_X12_layState, rhck, ryM_1, ryM_2, ryM_3, ry_si, ry_sl, if_true, ry_ck, Option.map_some, Option.map_none, ry_ite, ry_bm, ry_mb, Nat.add_assoc, Nat.reduceAdd, Option.some_bind, Option.bind_some, ssk_102 hS, e_X12_houseMany hS, e_X12_layState_10 hS (e_X12_layState_37 hS), e_X12_layState_37 hS]
def g_X12_keepAt_2 (k26 : ryS → Option (ryS)) : Nat → ryS → Int32 → Option (ryS)
  | 0, _, _ => none
  | n + 1, s, v1 =>
    if v1 < 8 then
      (rhck (0 ≤ (v1).toInt ∧ (v1).toInt < (8 : Nat)) <|
      rhck (0 ≤ (v1).toInt ∧ (v1).toInt < (8 : Nat)) <|
      let s1 := rysi s 143 (v1 : Int32).toNatClampNeg ((s.1 128 v1.toNatClampNeg))
      let x2 : Int32 := v1 + 1
      g_X12_keepAt_2 k26 n s1 x2)
    else
      k26 s
def g_X12_keepAt_28 : Nat → ryS → Int32 → Option (ryS)
  | 0, _, _ => none
  | n + 1, s, v1 =>
    if v1 < 5 then
      (rhck (0 ≤ (v1).toInt ∧ (v1).toInt < (6 : Nat)) <|
      rhck (0 ≤ (v1).toInt ∧ (v1).toInt < (6 : Nat)) <|
      let s3 := rysi s 144 (v1 : Int32).toNatClampNeg ((s.1 129 v1.toNatClampNeg))
      let x4 : Int32 := v1 + 1
      g_X12_keepAt_28 n s3 x4)
    else
      some s
def g_X12_keepAt_26 (s : ryS) : Option (ryS) :=
    g_X12_keepAt_28 rhFU s 0
def g_X12_keepAt (s : ryS) : Option (ryS) :=
    g_X12_keepAt_2 (g_X12_keepAt_26) rhFU s 0
set_option maxHeartbeats 400000 in
set_option maxRecDepth 100000 in
theorem e_X12_keepAt_2 {Γ : rhG} {R : Nat → Nat → Nat} (hS : ShS Γ R) {f26 : rhM → Nat → Option (rhM)} {k26 : ryS → Option (ryS)} (hk26 : ∀ (s : ryS), f26 (ryM s R) 102 = Option.map (fun s => ryM s R) (k26 s)) : ∀ (n : Nat) (s : ryS) (v1 : Int32), f_X12_keepAt_2 f26 Γ n (ryM s R) 102 v1 = Option.map (fun s => ryM s R) (g_X12_keepAt_2 k26 n s v1) := by
  intro n
  induction n with
  | zero => intros; simp only [f_X12_keepAt_2, g_X12_keepAt_2, Option.map_none]
  | succ n ih =>
    intros
    simp only [f_X12_keepAt_2, g_X12_keepAt_2, rhck, ryM_1, ryM_2, ryM_3, ry_si, ry_sl, if_true, ry_ck, Option.map_some, Option.map_none, ry_ite, ry_bm, ry_mb, Nat.add_assoc, Nat.reduceAdd, Option.some_bind, Option.bind_some, ssk_102 hS, ssk_128 hS, ssk_143 hS, ssl_128 hS, ssl_143 hS, ssr_102_39 hS, ssr_102_63 hS, hk26, ih]
set_option maxHeartbeats 400000 in
set_option maxRecDepth 100000 in
theorem e_X12_keepAt_28 {Γ : rhG} {R : Nat → Nat → Nat} (hS : ShS Γ R) : ∀ (n : Nat) (s : ryS) (v1 : Int32), f_X12_keepAt_28 Γ n (ryM s R) 102 v1 = Option.map (fun s => ryM s R) (g_X12_keepAt_28 n s v1) := by
  intro n
  induction n with
  | zero => intros; simp only [f_X12_keepAt_28, g_X12_keepAt_28, Option.map_none]
  | succ n ih =>
    intros
    simp only [f_X12_keepAt_28, g_X12_keepAt_28, rhck, ryM_1, ryM_2, ryM_3, ry_si, ry_sl, if_true, ry_ck, Option.map_some, Option.map_none, ry_ite, ry_bm, ry_mb, Nat.add_assoc, Nat.reduceAdd, Option.some_bind, Option.bind_some, ssk_102 hS, ssk_129 hS, ssk_144 hS, ssl_129 hS, ssl_144 hS, ssr_102_40 hS, ssr_102_64 hS, ih]
set_option maxHeartbeats 400000 in
set_option maxRecDepth 100000 in
theorem e_X12_keepAt_26 {Γ : rhG} {R : Nat → Nat → Nat} (hS : ShS Γ R) : ∀ (s : ryS), f_X12_keepAt_26 Γ (ryM s R) 102 = Option.map (fun s => ryM s R) (g_X12_keepAt_26 s) := by
  intros
  simp only [f_X12_keepAt_26, g_X12_keepAt_26, rhck, ryM_1, ryM_2, ryM_3, ry_si, ry_sl, if_true, ry_ck, Option.map_some, Option.map_none, ry_ite, ry_bm, ry_mb, Nat.add_assoc, Nat.reduceAdd, Option.some_bind, Option.bind_some, e_X12_keepAt_28 hS]
set_option maxHeartbeats 400000 in
set_option maxRecDepth 100000 in
theorem e_X12_keepAt {Γ : rhG} {R : Nat → Nat → Nat} (hS : ShS Γ R) : ∀ (s : ryS), f_X12_keepAt Γ (ryM s R) 102 = Option.map (fun s => ryM s R) (g_X12_keepAt s) := by
  intros
  simp only [f_X12_keepAt, g_X12_keepAt, rhck, ryM_1, ryM_2, ryM_3, ry_si, ry_sl, if_true, ry_ck, Option.map_some, Option.map_none, ry_ite, ry_bm, ry_mb, Nat.add_assoc, Nat.reduceAdd, Option.some_bind, Option.bind_some, e_X12_keepAt_2 hS (e_X12_keepAt_26 hS), e_X12_keepAt_26 hS]
def g_X12_layAt_2 (k26 : ryS → Option (ryS)) : Nat → ryS → Int32 → Option (ryS)
  | 0, _, _ => none
  | n + 1, s, v1 =>
    if v1 < 8 then
      (rhck (0 ≤ (v1).toInt ∧ (v1).toInt < (8 : Nat)) <|
      rhck (0 ≤ (v1).toInt ∧ (v1).toInt < (8 : Nat)) <|
      let s1 := rysi s 128 (v1 : Int32).toNatClampNeg ((s.1 143 v1.toNatClampNeg))
      let x2 : Int32 := v1 + 1
      g_X12_layAt_2 k26 n s1 x2)
    else
      k26 s
def g_X12_layAt_28 : Nat → ryS → Int32 → Option (ryS)
  | 0, _, _ => none
  | n + 1, s, v1 =>
    if v1 < 5 then
      (rhck (0 ≤ (v1).toInt ∧ (v1).toInt < (6 : Nat)) <|
      rhck (0 ≤ (v1).toInt ∧ (v1).toInt < (6 : Nat)) <|
      let s3 := rysi s 129 (v1 : Int32).toNatClampNeg ((s.1 144 v1.toNatClampNeg))
      let x4 : Int32 := v1 + 1
      g_X12_layAt_28 n s3 x4)
    else
      some s
def g_X12_layAt_26 (s : ryS) : Option (ryS) :=
    g_X12_layAt_28 rhFU s 0
def g_X12_layAt (s : ryS) : Option (ryS) :=
    g_X12_layAt_2 (g_X12_layAt_26) rhFU s 0
set_option maxHeartbeats 400000 in
set_option maxRecDepth 100000 in
theorem e_X12_layAt_2 {Γ : rhG} {R : Nat → Nat → Nat} (hS : ShS Γ R) {f26 : rhM → Nat → Option (rhM)} {k26 : ryS → Option (ryS)} (hk26 : ∀ (s : ryS), f26 (ryM s R) 102 = Option.map (fun s => ryM s R) (k26 s)) : ∀ (n : Nat) (s : ryS) (v1 : Int32), f_X12_layAt_2 f26 Γ n (ryM s R) 102 v1 = Option.map (fun s => ryM s R) (g_X12_layAt_2 k26 n s v1) := by
  intro n
  induction n with
  | zero => intros; simp only [f_X12_layAt_2, g_X12_layAt_2, Option.map_none]
  | succ n ih =>
    intros
    simp only [f_X12_layAt_2, g_X12_layAt_2, rhck, ryM_1, ryM_2, ryM_3, ry_si, ry_sl, if_true, ry_ck, Option.map_some, Option.map_none, ry_ite, ry_bm, ry_mb, Nat.add_assoc, Nat.reduceAdd, Option.some_bind, Option.bind_some, ssk_102 hS, ssk_128 hS, ssk_143 hS, ssl_128 hS, ssl_143 hS, ssr_102_39 hS, ssr_102_63 hS, hk26, ih]
set_option maxHeartbeats 400000 in
set_option maxRecDepth 100000 in
theorem e_X12_layAt_28 {Γ : rhG} {R : Nat → Nat → Nat} (hS : ShS Γ R) : ∀ (n : Nat) (s : ryS) (v1 : Int32), f_X12_layAt_28 Γ n (ryM s R) 102 v1 = Option.map (fun s => ryM s R) (g_X12_layAt_28 n s v1) := by
  intro n
  induction n with
  | zero => intros; simp only [f_X12_layAt_28, g_X12_layAt_28, Option.map_none]
  | succ n ih =>
    intros
    simp only [f_X12_layAt_28, g_X12_layAt_28, rhck, ryM_1, ryM_2, ryM_3, ry_si, ry_sl, if_true, ry_ck, Option.map_some, Option.map_none, ry_ite, ry_bm, ry_mb, Nat.add_assoc, Nat.reduceAdd, Option.some_bind, Option.bind_some, ssk_102 hS, ssk_129 hS, ssk_144 hS, ssl_129 hS, ssl_144 hS, ssr_102_40 hS, ssr_102_64 hS, ih]
set_option maxHeartbeats 400000 in
set_option maxRecDepth 100000 in
theorem e_X12_layAt_26 {Γ : rhG} {R : Nat → Nat → Nat} (hS : ShS Γ R) : ∀ (s : ryS), f_X12_layAt_26 Γ (ryM s R) 102 = Option.map (fun s => ryM s R) (g_X12_layAt_26 s) := by
  intros
  simp only [f_X12_layAt_26, g_X12_layAt_26, rhck, ryM_1, ryM_2, ryM_3, ry_si, ry_sl, if_true, ry_ck, Option.map_some, Option.map_none, ry_ite, ry_bm, ry_mb, Nat.add_assoc, Nat.reduceAdd, Option.some_bind, Option.bind_some, e_X12_layAt_28 hS]
set_option maxHeartbeats 400000 in
set_option maxRecDepth 100000 in
theorem e_X12_layAt {Γ : rhG} {R : Nat → Nat → Nat} (hS : ShS Γ R) : ∀ (s : ryS), f_X12_layAt Γ (ryM s R) 102 = Option.map (fun s => ryM s R) (g_X12_layAt s) := by
  intros
  simp only [f_X12_layAt, g_X12_layAt, rhck, ryM_1, ryM_2, ryM_3, ry_si, ry_sl, if_true, ry_ck, Option.map_some, Option.map_none, ry_ite, ry_bm, ry_mb, Nat.add_assoc, Nat.reduceAdd, Option.some_bind, Option.bind_some, e_X12_layAt_2 hS (e_X12_layAt_26 hS), e_X12_layAt_26 hS]
def g_X12_spread_163 (k46 : ryS → Int32 → Int32 → Int32 → Int32 → Option (ryS)) (s : ryS) (v1 : Int32) (v2 : Int32) (v3 : Int32) (v4 : Int32) : Option (ryS) :=
    let x6 : Int32 := v4 + 1
    k46 s v1 v2 v3 x6
def g_X12_spread_46 (k169 : ryS → Int32 → Int32 → Int32 → Option (ryS)) : Nat → ryS → Int32 → Int32 → Int32 → Int32 → Option (ryS)
  | 0, _, _, _, _, _ => none
  | n + 1, s, v1, v2, v3, v4 =>
    (g_X12_railMany s).bind fun r3 =>
    if v4 < r3 then
      ((g_X12_layAt s).bind fun r4 =>
      (g_X12_isLawful r4 v2 v3 v4).bind fun r5 =>
      if r5.1 = 0 then
        (g_X12_spread_163 (g_X12_spread_46 k169 n) r5.2 v1 v2 v3 v4)
      else
        (g_X12_moves r5.2 v2 v3 v4).bind fun r7 =>
        (g_X12_stateOf r7).bind fun r8 =>
        rhck (0 ≤ (r8).toInt ∧ (r8).toInt < (246960 : Nat)) <|
        if (r7.1 139 r8.toNatClampNeg) < 0 then
          (rhck (0 ≤ (v1).toInt ∧ (v1).toInt < (246960 : Nat)) <|
          let s9 := rysi r7 139 (r8 : Int32).toNatClampNeg (((r7.1 139 v1.toNatClampNeg) + 1))
          rhck (0 ≤ (r8).toInt ∧ (r8).toInt < (246960 : Nat)) <|
          let s10 := rysi s9 138 (r8 : Int32).toNatClampNeg v1
          rhck (0 ≤ (r8).toInt ∧ (r8).toInt < (246960 : Nat)) <|
          let s11 := rysi s10 137 (r8 : Int32).toNatClampNeg ((((100 * v2) + (10 * v3)) + v4))
          rhck (0 ≤ (s11.1 102 60).toInt ∧ (s11.1 102 60).toInt < (61000 : Nat)) <|
          let s12 := rysi s11 141 (s11.1 102 60 : Int32).toNatClampNeg r8
          let s13 := rysi s12 102 60 ((s12.1 102 60) + 1)
          g_X12_spread_163 (g_X12_spread_46 k169 n) s13 v1 v2 v3 v4)
        else
          g_X12_spread_163 (g_X12_spread_46 k169 n) r7 v1 v2 v3 v4)
    else
      k169 s v1 v2 v3
def g_X12_spread_169 (k16 : ryS → Int32 → Int32 → Int32 → Option (ryS)) (s : ryS) (v1 : Int32) (v2 : Int32) (v3 : Int32) : Option (ryS) :=
    let x14 : Int32 := v3 + 1
    k16 s v1 v2 x14
def g_X12_spread_39 (k16 : ryS → Int32 → Int32 → Int32 → Option (ryS)) (k175 : ryS → Int32 → Int32 → Option (ryS)) (s : ryS) (v1 : Int32) (v2 : Int32) (v3 : Int32) (w0 : Int32) (w1 : Int32) (w2 : Int32) : Option (ryS) :=
    if (w1 - w2) < w0 then
      (k175 s v1 v2)
    else
      g_X12_spread_46 (g_X12_spread_169 k16) rhFU s v1 v2 v3 0
def g_X12_spread_16 (k175 : ryS → Int32 → Int32 → Option (ryS)) : Nat → ryS → Int32 → Int32 → Int32 → Option (ryS)
  | 0, _, _, _, _ => none
  | n + 1, s, v1, v2, v3 =>
    rhck (0 ≤ (v2).toInt ∧ (v2).toInt < (6 : Nat)) <|
    if v2 = 0 then
      (g_X12_spread_39 (g_X12_spread_16 k175 n) k175 s v1 v2 v3 v3 (s.1 144 v2.toNatClampNeg) 0)
    else
      rhck (0 ≤ (v2 - 1).toInt ∧ (v2 - 1).toInt < (6 : Nat)) <|
      g_X12_spread_39 (g_X12_spread_16 k175 n) k175 s v1 v2 v3 v3 (s.1 144 v2.toNatClampNeg) (s.1 144 (v2 - 1).toNatClampNeg)
def g_X12_spread_175 (k6 : ryS → Int32 → Int32 → Option (ryS)) (s : ryS) (v1 : Int32) (v2 : Int32) : Option (ryS) :=
    let x15 : Int32 := v2 + 1
    k6 s v1 x15
def g_X12_spread_6 : Nat → ryS → Int32 → Int32 → Option (ryS)
  | 0, _, _, _ => none
  | n + 1, s, v1, v2 =>
    (g_X12_railMany s).bind fun r2 =>
    if v2 < r2 then
      (g_X12_spread_16 (g_X12_spread_175 (g_X12_spread_6 n)) rhFU s v1 v2 1)
    else
      some s
def g_X12_spread (s : ryS) (v1 : Int32) : Option (ryS) :=
    (g_X12_keepAt s).bind fun r1 =>
    g_X12_spread_6 rhFU r1 v1 0
set_option maxHeartbeats 400000 in
set_option maxRecDepth 100000 in
theorem e_X12_spread_163 {Γ : rhG} {R : Nat → Nat → Nat} (hS : ShS Γ R) {f46 : rhM → Nat → Int32 → Int32 → Int32 → Int32 → Option (rhM)} {k46 : ryS → Int32 → Int32 → Int32 → Int32 → Option (ryS)} (hk46 : ∀ (s : ryS) (v1 : Int32) (v2 : Int32) (v3 : Int32) (v4 : Int32), f46 (ryM s R) 102 v1 v2 v3 v4 = Option.map (fun s => ryM s R) (k46 s v1 v2 v3 v4)) : ∀ (s : ryS) (v1 : Int32) (v2 : Int32) (v3 : Int32) (v4 : Int32), f_X12_spread_163 f46 Γ (ryM s R) 102 v1 v2 v3 v4 = Option.map (fun s => ryM s R) (g_X12_spread_163 k46 s v1 v2 v3 v4) := by
  intros
  simp only [f_X12_spread_163, g_X12_spread_163, rhck, ryM_1, ryM_2, ryM_3, ry_si, ry_sl, if_true, ry_ck, Option.map_some, Option.map_none, ry_ite, ry_bm, ry_mb, Nat.add_assoc, Nat.reduceAdd, Option.some_bind, Option.bind_some, hk46]
set_option maxHeartbeats 400000 in
set_option maxRecDepth 100000 in
theorem e_X12_spread_46 {Γ : rhG} {R : Nat → Nat → Nat} (hS : ShS Γ R) {f169 : rhM → Nat → Int32 → Int32 → Int32 → Option (rhM)} {k169 : ryS → Int32 → Int32 → Int32 → Option (ryS)} (hk169 : ∀ (s : ryS) (v1 : Int32) (v2 : Int32) (v3 : Int32), f169 (ryM s R) 102 v1 v2 v3 = Option.map (fun s => ryM s R) (k169 s v1 v2 v3)) : ∀ (n : Nat) (s : ryS) (v1 : Int32) (v2 : Int32) (v3 : Int32) (v4 : Int32), f_X12_spread_46 f169 Γ n (ryM s R) 102 v1 v2 v3 v4 = Option.map (fun s => ryM s R) (g_X12_spread_46 k169 n s v1 v2 v3 v4) := by
  intro n
  induction n with
  | zero => intros; simp only [f_X12_spread_46, g_X12_spread_46, Option.map_none]
  | succ n ih =>
    intros
    simp only [f_X12_spread_46, g_X12_spread_46, rhck, ryM_1, ryM_2, ryM_3, ry_si, ry_sl, if_true, ry_ck, Option.map_some, Option.map_none, ry_ite, ry_bm, ry_mb, Nat.add_assoc, Nat.reduceAdd, Option.some_bind, Option.bind_some, ssk_102 hS, ssk_137 hS, ssk_138 hS, ssk_139 hS, ssk_141 hS, ssl_137 hS, ssl_138 hS, ssl_139 hS, ssl_141 hS, ssr_102_54 hS, ssr_102_55 hS, ssr_102_56 hS, ssr_102_58 hS, e_X12_railMany hS, e_X12_layAt hS, e_X12_isLawful hS, e_X12_moves hS, e_X12_stateOf hS, hk169, e_X12_spread_163 hS ih, ih]
set_option maxHeartbeats 400000 in
set_option maxRecDepth 100000 in
theorem e_X12_spread_169 {Γ : rhG} {R : Nat → Nat → Nat} (hS : ShS Γ R) {f16 : rhM → Nat → Int32 → Int32 → Int32 → Option (rhM)} {k16 : ryS → Int32 → Int32 → Int32 → Option (ryS)} (hk16 : ∀ (s : ryS) (v1 : Int32) (v2 : Int32) (v3 : Int32), f16 (ryM s R) 102 v1 v2 v3 = Option.map (fun s => ryM s R) (k16 s v1 v2 v3)) : ∀ (s : ryS) (v1 : Int32) (v2 : Int32) (v3 : Int32), f_X12_spread_169 f16 Γ (ryM s R) 102 v1 v2 v3 = Option.map (fun s => ryM s R) (g_X12_spread_169 k16 s v1 v2 v3) := by
  intros
  simp only [f_X12_spread_169, g_X12_spread_169, rhck, ryM_1, ryM_2, ryM_3, ry_si, ry_sl, if_true, ry_ck, Option.map_some, Option.map_none, ry_ite, ry_bm, ry_mb, Nat.add_assoc, Nat.reduceAdd, Option.some_bind, Option.bind_some, hk16]
set_option maxHeartbeats 400000 in
set_option maxRecDepth 100000 in
theorem e_X12_spread_39 {Γ : rhG} {R : Nat → Nat → Nat} (hS : ShS Γ R) {f16 : rhM → Nat → Int32 → Int32 → Int32 → Option (rhM)} {k16 : ryS → Int32 → Int32 → Int32 → Option (ryS)} {f175 : rhM → Nat → Int32 → Int32 → Option (rhM)} {k175 : ryS → Int32 → Int32 → Option (ryS)} (hk16 : ∀ (s : ryS) (v1 : Int32) (v2 : Int32) (v3 : Int32), f16 (ryM s R) 102 v1 v2 v3 = Option.map (fun s => ryM s R) (k16 s v1 v2 v3)) (hk175 : ∀ (s : ryS) (v1 : Int32) (v2 : Int32), f175 (ryM s R) 102 v1 v2 = Option.map (fun s => ryM s R) (k175 s v1 v2)) : ∀ (s : ryS) (v1 : Int32) (v2 : Int32) (v3 : Int32) (w0 : Int32) (w1 : Int32) (w2 : Int32), f_X12_spread_39 f16 f175 Γ (ryM s R) 102 v1 v2 v3 w0 w1 w2 = Option.map (fun s => ryM s R) (g_X12_spread_39 k16 k175 s v1 v2 v3 w0 w1 w2) := by
  intros
  simp only [f_X12_spread_39, g_X12_spread_39, rhck, ryM_1, ryM_2, ryM_3, ry_si, ry_sl, if_true, ry_ck, Option.map_some, Option.map_none, ry_ite, ry_bm, ry_mb, Nat.add_assoc, Nat.reduceAdd, Option.some_bind, Option.bind_some, hk16, hk175, e_X12_spread_46 hS (e_X12_spread_169 hS hk16), e_X12_spread_169 hS hk16]
set_option maxHeartbeats 400000 in
set_option maxRecDepth 100000 in
theorem e_X12_spread_16 {Γ : rhG} {R : Nat → Nat → Nat} (hS : ShS Γ R) {f175 : rhM → Nat → Int32 → Int32 → Option (rhM)} {k175 : ryS → Int32 → Int32 → Option (ryS)} (hk175 : ∀ (s : ryS) (v1 : Int32) (v2 : Int32), f175 (ryM s R) 102 v1 v2 = Option.map (fun s => ryM s R) (k175 s v1 v2)) : ∀ (n : Nat) (s : ryS) (v1 : Int32) (v2 : Int32) (v3 : Int32), f_X12_spread_16 f175 Γ n (ryM s R) 102 v1 v2 v3 = Option.map (fun s => ryM s R) (g_X12_spread_16 k175 n s v1 v2 v3) := by
  intro n
  induction n with
  | zero => intros; simp only [f_X12_spread_16, g_X12_spread_16, Option.map_none]
  | succ n ih =>
    intros
    simp only [f_X12_spread_16, g_X12_spread_16, rhck, ryM_1, ryM_2, ryM_3, ry_si, ry_sl, if_true, ry_ck, Option.map_some, Option.map_none, ry_ite, ry_bm, ry_mb, Nat.add_assoc, Nat.reduceAdd, Option.some_bind, Option.bind_some, ssk_102 hS, ssk_144 hS, ssl_144 hS, ssr_102_64 hS, hk175, e_X12_spread_39 hS ih hk175, ih]
set_option maxHeartbeats 400000 in
set_option maxRecDepth 100000 in
theorem e_X12_spread_175 {Γ : rhG} {R : Nat → Nat → Nat} (hS : ShS Γ R) {f6 : rhM → Nat → Int32 → Int32 → Option (rhM)} {k6 : ryS → Int32 → Int32 → Option (ryS)} (hk6 : ∀ (s : ryS) (v1 : Int32) (v2 : Int32), f6 (ryM s R) 102 v1 v2 = Option.map (fun s => ryM s R) (k6 s v1 v2)) : ∀ (s : ryS) (v1 : Int32) (v2 : Int32), f_X12_spread_175 f6 Γ (ryM s R) 102 v1 v2 = Option.map (fun s => ryM s R) (g_X12_spread_175 k6 s v1 v2) := by
  intros
  simp only [f_X12_spread_175, g_X12_spread_175, rhck, ryM_1, ryM_2, ryM_3, ry_si, ry_sl, if_true, ry_ck, Option.map_some, Option.map_none, ry_ite, ry_bm, ry_mb, Nat.add_assoc, Nat.reduceAdd, Option.some_bind, Option.bind_some, hk6]
set_option maxHeartbeats 400000 in
set_option maxRecDepth 100000 in
theorem e_X12_spread_6 {Γ : rhG} {R : Nat → Nat → Nat} (hS : ShS Γ R) : ∀ (n : Nat) (s : ryS) (v1 : Int32) (v2 : Int32), f_X12_spread_6 Γ n (ryM s R) 102 v1 v2 = Option.map (fun s => ryM s R) (g_X12_spread_6 n s v1 v2) := by
  intro n
  induction n with
  | zero => intros; simp only [f_X12_spread_6, g_X12_spread_6, Option.map_none]
  | succ n ih =>
    intros
    simp only [f_X12_spread_6, g_X12_spread_6, rhck, ryM_1, ryM_2, ryM_3, ry_si, ry_sl, if_true, ry_ck, Option.map_some, Option.map_none, ry_ite, ry_bm, ry_mb, Nat.add_assoc, Nat.reduceAdd, Option.some_bind, Option.bind_some, ssk_102 hS, e_X12_railMany hS, e_X12_spread_16 hS (e_X12_spread_175 hS ih), e_X12_spread_175 hS ih, ih]
set_option maxHeartbeats 400000 in
set_option maxRecDepth 100000 in
theorem e_X12_spread {Γ : rhG} {R : Nat → Nat → Nat} (hS : ShS Γ R) : ∀ (s : ryS) (v1 : Int32), f_X12_spread Γ (ryM s R) 102 v1 = Option.map (fun s => ryM s R) (g_X12_spread s v1) := by
  intros
  simp only [f_X12_spread, g_X12_spread, rhck, ryM_1, ryM_2, ryM_3, ry_si, ry_sl, if_true, ry_ck, Option.map_some, Option.map_none, ry_ite, ry_bm, ry_mb, Nat.add_assoc, Nat.reduceAdd, Option.some_bind, Option.bind_some, ssk_102 hS, e_X12_keepAt hS, e_X12_spread_6 hS]
def g_X12_search_68 (k11 : ryS → Int32 → Int32 → Option (Int32 × ryS)) (s : ryS) (v2 : Int32) (v3 : Int32) : Option (Int32 × ryS) :=
    let x6 : Int32 := v3 + 1
    k11 s v2 x6
def g_X12_search_11 : Nat → ryS → Int32 → Int32 → Option (Int32 × ryS)
  | 0, _, _, _ => none
  | n + 1, s, v2, v3 =>
    if v3 < (s.1 102 60) then
      (rhck (0 ≤ (v3).toInt ∧ (v3).toInt < (61000 : Nat)) <|
      (g_X12_layState s (s.1 141 v3.toNatClampNeg)).bind fun r3 =>
      (g_X12_isEnd r3).bind fun r4 =>
      if r4 = 0 then
        (rhck (0 ≤ (r3.1 141 v3.toNatClampNeg).toInt ∧ (r3.1 141 v3.toNatClampNeg).toInt < (246960 : Nat)) <|
        if (r3.1 139 (r3.1 141 v3.toNatClampNeg).toNatClampNeg) < v2 then
          ((g_X12_spread r3 (r3.1 141 v3.toNatClampNeg)).bind fun r5 =>
          g_X12_search_68 (g_X12_search_11 n) r5 v2 v3)
        else
          g_X12_search_68 (g_X12_search_11 n) r3 v2 v3)
      else
        some ((r3.1 141 v3.toNatClampNeg, r3)))
    else
      some (((-1), s))
def g_X12_search (s : ryS) (v1 : Int32) (v2 : Int32) : Option (Int32 × ryS) :=
    let s1 := rysi s 102 61 v1
    (g_X12_begins s1).bind fun r2 =>
    g_X12_search_11 rhFU r2 v2 0
set_option maxHeartbeats 400000 in
set_option maxRecDepth 100000 in
theorem e_X12_search_68 {Γ : rhG} {R : Nat → Nat → Nat} (hS : ShS Γ R) {f11 : rhM → Nat → Int32 → Int32 → Option (Int32 × rhM)} {k11 : ryS → Int32 → Int32 → Option (Int32 × ryS)} (hk11 : ∀ (s : ryS) (v2 : Int32) (v3 : Int32), f11 (ryM s R) 102 v2 v3 = Option.map (fun q => (q.1, ryM q.2 R)) (k11 s v2 v3)) : ∀ (s : ryS) (v2 : Int32) (v3 : Int32), f_X12_search_68 f11 Γ (ryM s R) 102 v2 v3 = Option.map (fun q => (q.1, ryM q.2 R)) (g_X12_search_68 k11 s v2 v3) := by
  intros
  simp only [f_X12_search_68, g_X12_search_68, rhck, ryM_1, ryM_2, ryM_3, ry_si, ry_sl, if_true, ry_ck, Option.map_some, Option.map_none, ry_ite, ry_bm, ry_mb, Nat.add_assoc, Nat.reduceAdd, Option.some_bind, Option.bind_some, hk11]
set_option maxHeartbeats 400000 in
set_option maxRecDepth 100000 in
theorem e_X12_search_11 {Γ : rhG} {R : Nat → Nat → Nat} (hS : ShS Γ R) : ∀ (n : Nat) (s : ryS) (v2 : Int32) (v3 : Int32), f_X12_search_11 Γ n (ryM s R) 102 v2 v3 = Option.map (fun q => (q.1, ryM q.2 R)) (g_X12_search_11 n s v2 v3) := by
  intro n
  induction n with
  | zero => intros; simp only [f_X12_search_11, g_X12_search_11, Option.map_none]
  | succ n ih =>
    intros
    simp only [f_X12_search_11, g_X12_search_11, rhck, ryM_1, ryM_2, ryM_3, ry_si, ry_sl, if_true, ry_ck, Option.map_some, Option.map_none, ry_ite, ry_bm, ry_mb, Nat.add_assoc, Nat.reduceAdd, Option.some_bind, Option.bind_some, ssk_102 hS, ssk_139 hS, ssk_141 hS, ssl_139 hS, ssl_141 hS, ssr_102_56 hS, ssr_102_58 hS, e_X12_layState hS, e_X12_isEnd hS, e_X12_spread hS, e_X12_search_68 hS ih, ih]
set_option maxHeartbeats 400000 in
set_option maxRecDepth 100000 in
theorem e_X12_search {Γ : rhG} {R : Nat → Nat → Nat} (hS : ShS Γ R) : ∀ (s : ryS) (v1 : Int32) (v2 : Int32), f_X12_search Γ (ryM s R) 102 v1 v2 = Option.map (fun q => (q.1, ryM q.2 R)) (g_X12_search s v1 v2) := by
  intros
  simp only [f_X12_search, g_X12_search, rhck, ryM_1, ryM_2, ryM_3, ry_si, ry_sl, if_true, ry_ck, Option.map_some, Option.map_none, ry_ite, ry_bm, ry_mb, Nat.add_assoc, Nat.reduceAdd, Option.some_bind, Option.bind_some, ssk_102 hS, e_X12_begins hS, e_X12_search_11 hS]
def g_X12_fewest (s : ryS) : Option (Int32 × ryS) :=
    let s1 := rysi s 102 66 0
    (g_X12_isMany s1).bind fun r2 =>
    if r2 = 0 then
      ((g_X12_search s1 (0 : Int32) (246960 : Int32)).bind fun r3 =>
      let x4 := r3.1
      if x4 < 0 then
        (some (((-1), r3.2)))
      else
        (g_X12_layWay r3.2 x4).bind fun r5 =>
        some ((r5.1 102 66, r5)))
    else
      some (((-2), s1))
set_option maxHeartbeats 400000 in
set_option maxRecDepth 100000 in
theorem e_X12_fewest {Γ : rhG} {R : Nat → Nat → Nat} (hS : ShS Γ R) : ∀ (s : ryS), f_X12_fewest Γ (ryM s R) 102 = Option.map (fun q => (q.1, ryM q.2 R)) (g_X12_fewest s) := by
  intros
  simp only [f_X12_fewest, g_X12_fewest, rhck, ryM_1, ryM_2, ryM_3, ry_si, ry_sl, if_true, ry_ck, Option.map_some, Option.map_none, ry_ite, ry_bm, ry_mb, Nat.add_assoc, Nat.reduceAdd, Option.some_bind, Option.bind_some, ssk_102 hS, e_X12_isMany hS, e_X12_search hS, e_X12_layWay hS]
def g_X12_fits (s : ryS) (v1 : Int32) (v2 : Int32) : Option (Int32 × ryS) :=
    (g_X12_isIn s v1 (0 : Int32) (3 : Int32)).bind fun r1 =>
    if r1 = 0 then
      (some (((-1), s)))
    else
      (g_X12_rowsOf s v1 v2).bind fun r2 =>
      some ((r2.1, r2.2))
set_option maxHeartbeats 400000 in
set_option maxRecDepth 100000 in
theorem e_X12_fits {Γ : rhG} {R : Nat → Nat → Nat} (hS : ShS Γ R) : ∀ (s : ryS) (v1 : Int32) (v2 : Int32), f_X12_fits Γ (ryM s R) 102 v1 v2 = Option.map (fun q => (q.1, ryM q.2 R)) (g_X12_fits s v1 v2) := by
  intros
  simp only [f_X12_fits, g_X12_fits, rhck, ryM_1, ryM_2, ryM_3, ry_si, ry_sl, if_true, ry_ck, Option.map_some, Option.map_none, ry_ite, ry_bm, ry_mb, Nat.add_assoc, Nat.reduceAdd, Option.some_bind, Option.bind_some, ssk_102 hS, e_X12_isIn, e_X12_rowsOf hS]
def g_X12_free (s : ryS) (v1 : Int32) : Option (Int32 × ryS) :=
    let s1 := rysi s 102 66 0
    (g_X12_isHouse s1 v1).bind fun r2 =>
    if r2 = 0 then
      (some (((-1), s1)))
    else
      (g_X12_isMany s1).bind fun r3 =>
      if r3 = 0 then
        (let s4 := rysi s1 102 62 v1
        (g_X12_search s4 (1 : Int32) (246960 : Int32)).bind fun r5 =>
        let x6 := r5.1
        if x6 < 0 then
          (some (((-1), r5.2)))
        else
          (g_X12_layWay r5.2 x6).bind fun r7 =>
          some ((r7.1 102 66, r7)))
      else
        some (((-2), s1))
set_option maxHeartbeats 400000 in
set_option maxRecDepth 100000 in
theorem e_X12_free {Γ : rhG} {R : Nat → Nat → Nat} (hS : ShS Γ R) : ∀ (s : ryS) (v1 : Int32), f_X12_free Γ (ryM s R) 102 v1 = Option.map (fun q => (q.1, ryM q.2 R)) (g_X12_free s v1) := by
  intros
  simp only [f_X12_free, g_X12_free, rhck, ryM_1, ryM_2, ryM_3, ry_si, ry_sl, if_true, ry_ck, Option.map_some, Option.map_none, ry_ite, ry_bm, ry_mb, Nat.add_assoc, Nat.reduceAdd, Option.some_bind, Option.bind_some, ssk_102 hS, e_X12_isHouse hS, e_X12_isMany hS, e_X12_search hS, e_X12_layWay hS]
def g_X12_fresh_37 (s : ryS) : Option (Int64 × ryS) :=
    let x2 := s.2 102 10
    (g_X12_isGood s).bind fun r3 =>
    if r3 = 0 then
      (some ((x2, s)))
    else
      (g_X12_goOn s).bind fun r4 =>
      some ((x2, r4))
def g_X12_fresh (s : ryS) (v1 : Int32) : Option (Int64 × ryS) :=
    (g_X12_isGood s).bind fun r1 =>
    if r1 = 0 then
      (some (((0 : Int64), s)))
    else
      if (s.1 102 8) = 2 then
        (if v1 = 0 then
          (g_X12_fresh_37 s)
        else
          (g_X12_fails s (3 : Int32) (s.1 102 6)).bind fun r5 =>
          g_X12_fresh_37 r5)
      else
        (g_X12_misplaced s).bind fun r6 =>
        g_X12_fresh_37 r6
set_option maxHeartbeats 400000 in
set_option maxRecDepth 100000 in
theorem e_X12_fresh_37 {Γ : rhG} {R : Nat → Nat → Nat} (hS : ShS Γ R) : ∀ (s : ryS), f_X12_fresh_37 Γ (ryM s R) 102 = Option.map (fun q => (q.1, ryM q.2 R)) (g_X12_fresh_37 s) := by
  intros
  simp only [f_X12_fresh_37, g_X12_fresh_37, rhck, ryM_1, ryM_2, ryM_3, ry_si, ry_sl, if_true, ry_ck, Option.map_some, Option.map_none, ry_ite, ry_bm, ry_mb, Nat.add_assoc, Nat.reduceAdd, Option.some_bind, Option.bind_some, ssk_102 hS, e_X12_isGood hS, e_X12_goOn hS]
set_option maxHeartbeats 400000 in
set_option maxRecDepth 100000 in
theorem e_X12_fresh {Γ : rhG} {R : Nat → Nat → Nat} (hS : ShS Γ R) : ∀ (s : ryS) (v1 : Int32), f_X12_fresh Γ (ryM s R) 102 v1 = Option.map (fun q => (q.1, ryM q.2 R)) (g_X12_fresh s v1) := by
  intros
  simp only [f_X12_fresh, g_X12_fresh, rhck, ryM_1, ryM_2, ryM_3, ry_si, ry_sl, if_true, ry_ck, Option.map_some, Option.map_none, ry_ite, ry_bm, ry_mb, Nat.add_assoc, Nat.reduceAdd, Option.some_bind, Option.bind_some, ssk_102 hS, e_X12_isGood hS, e_X12_fails hS, e_X12_misplaced hS, e_X12_fresh_37 hS]
def g_X12_goal_12 (k38 : ryS → Int32 → Option (Int32 × ryS)) : Nat → ryS → Int32 → Int32 → Option (Int32 × ryS)
  | 0, _, _, _ => none
  | n + 1, s, v1, v2 =>
    if v2 < (s.1 102 53) then
      (rhck (0 ≤ (v2).toInt ∧ (v2).toInt < (8 : Nat)) <|
      if (s.1 136 v2.toNatClampNeg) = v1 then
        (some (((-1), s)))
      else
        let x2 : Int32 := v2 + 1
        g_X12_goal_12 k38 n s v1 x2)
    else
      k38 s v1
def g_X12_goal_38 (s : ryS) (v1 : Int32) : Option (Int32 × ryS) :=
    rhck (0 ≤ (s.1 102 53).toInt ∧ (s.1 102 53).toInt < (8 : Nat)) <|
    let s3 := rysi s 136 (s.1 102 53 : Int32).toNatClampNeg v1
    let s4 := rysi s3 102 53 ((s3.1 102 53) + 1)
    some ((s4.1 102 53, s4))
def g_X12_goal (s : ryS) (v1 : Int32) : Option (Int32 × ryS) :=
    (g_X12_isHouse s v1).bind fun r1 =>
    if r1 = 0 then
      (some (((-1), s)))
    else
      g_X12_goal_12 (g_X12_goal_38) rhFU s v1 0
set_option maxHeartbeats 400000 in
set_option maxRecDepth 100000 in
theorem e_X12_goal_12 {Γ : rhG} {R : Nat → Nat → Nat} (hS : ShS Γ R) {f38 : rhM → Nat → Int32 → Option (Int32 × rhM)} {k38 : ryS → Int32 → Option (Int32 × ryS)} (hk38 : ∀ (s : ryS) (v1 : Int32), f38 (ryM s R) 102 v1 = Option.map (fun q => (q.1, ryM q.2 R)) (k38 s v1)) : ∀ (n : Nat) (s : ryS) (v1 : Int32) (v2 : Int32), f_X12_goal_12 f38 Γ n (ryM s R) 102 v1 v2 = Option.map (fun q => (q.1, ryM q.2 R)) (g_X12_goal_12 k38 n s v1 v2) := by
  intro n
  induction n with
  | zero => intros; simp only [f_X12_goal_12, g_X12_goal_12, Option.map_none]
  | succ n ih =>
    intros
    simp only [f_X12_goal_12, g_X12_goal_12, rhck, ryM_1, ryM_2, ryM_3, ry_si, ry_sl, if_true, ry_ck, Option.map_some, Option.map_none, ry_ite, ry_bm, ry_mb, Nat.add_assoc, Nat.reduceAdd, Option.some_bind, Option.bind_some, ssk_102 hS, ssk_136 hS, ssl_136 hS, ssr_102_52 hS, hk38, ih]
set_option maxHeartbeats 400000 in
set_option maxRecDepth 100000 in
theorem e_X12_goal_38 {Γ : rhG} {R : Nat → Nat → Nat} (hS : ShS Γ R) : ∀ (s : ryS) (v1 : Int32), f_X12_goal_38 Γ (ryM s R) 102 v1 = Option.map (fun q => (q.1, ryM q.2 R)) (g_X12_goal_38 s v1) := by
  intros
  simp only [f_X12_goal_38, g_X12_goal_38, rhck, ryM_1, ryM_2, ryM_3, ry_si, ry_sl, if_true, ry_ck, Option.map_some, Option.map_none, ry_ite, ry_bm, ry_mb, Nat.add_assoc, Nat.reduceAdd, Option.some_bind, Option.bind_some, ssk_102 hS, ssk_136 hS, ssl_136 hS, ssr_102_52 hS]
set_option maxHeartbeats 400000 in
set_option maxRecDepth 100000 in
theorem e_X12_goal {Γ : rhG} {R : Nat → Nat → Nat} (hS : ShS Γ R) : ∀ (s : ryS) (v1 : Int32), f_X12_goal Γ (ryM s R) 102 v1 = Option.map (fun q => (q.1, ryM q.2 R)) (g_X12_goal s v1) := by
  intros
  simp only [f_X12_goal, g_X12_goal, rhck, ryM_1, ryM_2, ryM_3, ry_si, ry_sl, if_true, ry_ck, Option.map_some, Option.map_none, ry_ite, ry_bm, ry_mb, Nat.add_assoc, Nat.reduceAdd, Option.some_bind, Option.bind_some, ssk_102 hS, e_X12_isHouse hS, e_X12_goal_12 hS (e_X12_goal_38 hS), e_X12_goal_38 hS]
def g_X12_hush (s : ryS) : Option (Int32 × ryS) :=
    let x1 := s.1 102 51
    let s2 := rysi s 102 51 0
    some ((x1, s2))
set_option maxHeartbeats 400000 in
set_option maxRecDepth 100000 in
theorem e_X12_hush {Γ : rhG} {R : Nat → Nat → Nat} (hS : ShS Γ R) : ∀ (s : ryS), f_X12_hush Γ (ryM s R) 102 = Option.map (fun q => (q.1, ryM q.2 R)) (g_X12_hush s) := by
  intros
  simp only [f_X12_hush, g_X12_hush, rhck, ryM_1, ryM_2, ryM_3, ry_si, ry_sl, if_true, ry_ck, Option.map_some, Option.map_none, ry_ite, ry_bm, ry_mb, Nat.add_assoc, Nat.reduceAdd, Option.some_bind, Option.bind_some, ssk_102 hS]
def g_X12_image_33 (k62 : ryS → Int32 → Option (Int32 × ryS)) : Nat → ryS → Int32 → Int32 → Option (Int32 × ryS)
  | 0, _, _, _ => none
  | n + 1, s, v1, v2 =>
    if v2 < 8 then
      (rhck (0 ≤ (v2).toInt ∧ (v2).toInt < (8 : Nat)) <|
      rhck (0 ≤ ((8 * v1) + v2).toInt ∧ ((8 * v1) + v2).toInt < (24 : Nat)) <|
      let s4 := rysi s 161 ((8 * v1) + v2 : Int32).toNatClampNeg ((s.1 131 v2.toNatClampNeg))
      let x5 : Int32 := v2 + 1
      g_X12_image_33 k62 n s4 v1 x5)
    else
      k62 s v1
def g_X12_image_64 (k92 : ryS → Int32 → Option (Int32 × ryS)) : Nat → ryS → Int32 → Int32 → Option (Int32 × ryS)
  | 0, _, _, _ => none
  | n + 1, s, v1, v2 =>
    if v2 < 5 then
      (rhck (0 ≤ (v2).toInt ∧ (v2).toInt < (6 : Nat)) <|
      rhck (0 ≤ ((6 * v1) + v2).toInt ∧ ((6 * v1) + v2).toInt < (18 : Nat)) <|
      let s6 := rysi s 162 ((6 * v1) + v2 : Int32).toNatClampNeg ((s.1 132 v2.toNatClampNeg))
      let x7 : Int32 := v2 + 1
      g_X12_image_64 k92 n s6 v1 x7)
    else
      k92 s v1
def g_X12_image_94 : Nat → ryS → Int32 → Int32 → Option (Int32 × ryS)
  | 0, _, _, _ => none
  | n + 1, s, v1, v2 =>
    if v2 < (s.1 102 48) then
      (rhck (0 ≤ (v2).toInt ∧ (v2).toInt < (300 : Nat)) <|
      rhck (0 ≤ ((300 * v1) + v2).toInt ∧ ((300 * v1) + v2).toInt < (900 : Nat)) <|
      let s8 := rysi s 163 ((300 * v1) + v2 : Int32).toNatClampNeg ((s.1 133 v2.toNatClampNeg))
      rhck (0 ≤ (v2).toInt ∧ (v2).toInt < (300 : Nat)) <|
      rhck (0 ≤ ((300 * v1) + v2).toInt ∧ ((300 * v1) + v2).toInt < (900 : Nat)) <|
      let s9 := rysi s8 164 ((300 * v1) + v2 : Int32).toNatClampNeg ((s8.1 134 v2.toNatClampNeg))
      let x10 : Int32 := v2 + 1
      g_X12_image_94 n s9 v1 x10)
    else
      some ((s.1 102 48, s))
def g_X12_image_92 (s : ryS) (v1 : Int32) : Option (Int32 × ryS) :=
    g_X12_image_94 rhFU s v1 0
def g_X12_image_62 (s : ryS) (v1 : Int32) : Option (Int32 × ryS) :=
    g_X12_image_64 (g_X12_image_92) rhFU s v1 0
def g_X12_image (s : ryS) (v1 : Int32) : Option (Int32 × ryS) :=
    (g_X12_isIn s v1 (0 : Int32) (2 : Int32)).bind fun r1 =>
    if r1 = 0 then
      (some (((-1), s)))
    else
      rhck (0 ≤ (v1).toInt ∧ (v1).toInt < (3 : Nat)) <|
      let s2 := rysi s 159 (v1 : Int32).toNatClampNeg ((s.1 102 48))
      rhck (0 ≤ (v1).toInt ∧ (v1).toInt < (3 : Nat)) <|
      let s3 := rysi s2 160 (v1 : Int32).toNatClampNeg ((s2.1 102 49))
      g_X12_image_33 (g_X12_image_62) rhFU s3 v1 0
set_option maxHeartbeats 400000 in
set_option maxRecDepth 100000 in
theorem e_X12_image_33 {Γ : rhG} {R : Nat → Nat → Nat} (hS : ShS Γ R) {f62 : rhM → Nat → Int32 → Option (Int32 × rhM)} {k62 : ryS → Int32 → Option (Int32 × ryS)} (hk62 : ∀ (s : ryS) (v1 : Int32), f62 (ryM s R) 102 v1 = Option.map (fun q => (q.1, ryM q.2 R)) (k62 s v1)) : ∀ (n : Nat) (s : ryS) (v1 : Int32) (v2 : Int32), f_X12_image_33 f62 Γ n (ryM s R) 102 v1 v2 = Option.map (fun q => (q.1, ryM q.2 R)) (g_X12_image_33 k62 n s v1 v2) := by
  intro n
  induction n with
  | zero => intros; simp only [f_X12_image_33, g_X12_image_33, Option.map_none]
  | succ n ih =>
    intros
    simp only [f_X12_image_33, g_X12_image_33, rhck, ryM_1, ryM_2, ryM_3, ry_si, ry_sl, if_true, ry_ck, Option.map_some, Option.map_none, ry_ite, ry_bm, ry_mb, Nat.add_assoc, Nat.reduceAdd, Option.some_bind, Option.bind_some, ssk_102 hS, ssk_131 hS, ssk_161 hS, ssl_131 hS, ssl_161 hS, ssr_102_42 hS, ssr_102_86 hS, hk62, ih]
set_option maxHeartbeats 400000 in
set_option maxRecDepth 100000 in
theorem e_X12_image_64 {Γ : rhG} {R : Nat → Nat → Nat} (hS : ShS Γ R) {f92 : rhM → Nat → Int32 → Option (Int32 × rhM)} {k92 : ryS → Int32 → Option (Int32 × ryS)} (hk92 : ∀ (s : ryS) (v1 : Int32), f92 (ryM s R) 102 v1 = Option.map (fun q => (q.1, ryM q.2 R)) (k92 s v1)) : ∀ (n : Nat) (s : ryS) (v1 : Int32) (v2 : Int32), f_X12_image_64 f92 Γ n (ryM s R) 102 v1 v2 = Option.map (fun q => (q.1, ryM q.2 R)) (g_X12_image_64 k92 n s v1 v2) := by
  intro n
  induction n with
  | zero => intros; simp only [f_X12_image_64, g_X12_image_64, Option.map_none]
  | succ n ih =>
    intros
    simp only [f_X12_image_64, g_X12_image_64, rhck, ryM_1, ryM_2, ryM_3, ry_si, ry_sl, if_true, ry_ck, Option.map_some, Option.map_none, ry_ite, ry_bm, ry_mb, Nat.add_assoc, Nat.reduceAdd, Option.some_bind, Option.bind_some, ssk_102 hS, ssk_132 hS, ssk_162 hS, ssl_132 hS, ssl_162 hS, ssr_102_43 hS, ssr_102_87 hS, hk92, ih]
set_option maxHeartbeats 400000 in
set_option maxRecDepth 100000 in
theorem e_X12_image_94 {Γ : rhG} {R : Nat → Nat → Nat} (hS : ShS Γ R) : ∀ (n : Nat) (s : ryS) (v1 : Int32) (v2 : Int32), f_X12_image_94 Γ n (ryM s R) 102 v1 v2 = Option.map (fun q => (q.1, ryM q.2 R)) (g_X12_image_94 n s v1 v2) := by
  intro n
  induction n with
  | zero => intros; simp only [f_X12_image_94, g_X12_image_94, Option.map_none]
  | succ n ih =>
    intros
    simp only [f_X12_image_94, g_X12_image_94, rhck, ryM_1, ryM_2, ryM_3, ry_si, ry_sl, if_true, ry_ck, Option.map_some, Option.map_none, ry_ite, ry_bm, ry_mb, Nat.add_assoc, Nat.reduceAdd, Option.some_bind, Option.bind_some, ssk_102 hS, ssk_133 hS, ssk_134 hS, ssk_163 hS, ssk_164 hS, ssl_133 hS, ssl_134 hS, ssl_163 hS, ssl_164 hS, ssr_102_46 hS, ssr_102_47 hS, ssr_102_88 hS, ssr_102_89 hS, ih]
set_option maxHeartbeats 400000 in
set_option maxRecDepth 100000 in
theorem e_X12_image_92 {Γ : rhG} {R : Nat → Nat → Nat} (hS : ShS Γ R) : ∀ (s : ryS) (v1 : Int32), f_X12_image_92 Γ (ryM s R) 102 v1 = Option.map (fun q => (q.1, ryM q.2 R)) (g_X12_image_92 s v1) := by
  intros
  simp only [f_X12_image_92, g_X12_image_92, rhck, ryM_1, ryM_2, ryM_3, ry_si, ry_sl, if_true, ry_ck, Option.map_some, Option.map_none, ry_ite, ry_bm, ry_mb, Nat.add_assoc, Nat.reduceAdd, Option.some_bind, Option.bind_some, e_X12_image_94 hS]
set_option maxHeartbeats 400000 in
set_option maxRecDepth 100000 in
theorem e_X12_image_62 {Γ : rhG} {R : Nat → Nat → Nat} (hS : ShS Γ R) : ∀ (s : ryS) (v1 : Int32), f_X12_image_62 Γ (ryM s R) 102 v1 = Option.map (fun q => (q.1, ryM q.2 R)) (g_X12_image_62 s v1) := by
  intros
  simp only [f_X12_image_62, g_X12_image_62, rhck, ryM_1, ryM_2, ryM_3, ry_si, ry_sl, if_true, ry_ck, Option.map_some, Option.map_none, ry_ite, ry_bm, ry_mb, Nat.add_assoc, Nat.reduceAdd, Option.some_bind, Option.bind_some, e_X12_image_64 hS (e_X12_image_92 hS), e_X12_image_92 hS]
set_option maxHeartbeats 400000 in
set_option maxRecDepth 100000 in
theorem e_X12_image {Γ : rhG} {R : Nat → Nat → Nat} (hS : ShS Γ R) : ∀ (s : ryS) (v1 : Int32), f_X12_image Γ (ryM s R) 102 v1 = Option.map (fun q => (q.1, ryM q.2 R)) (g_X12_image s v1) := by
  intros
  simp only [f_X12_image, g_X12_image, rhck, ryM_1, ryM_2, ryM_3, ry_si, ry_sl, if_true, ry_ck, Option.map_some, Option.map_none, ry_ite, ry_bm, ry_mb, Nat.add_assoc, Nat.reduceAdd, Option.some_bind, Option.bind_some, ssk_102 hS, ssk_159 hS, ssk_160 hS, ssl_159 hS, ssl_160 hS, ssr_102_84 hS, ssr_102_85 hS, e_X12_isIn, e_X12_image_33 hS (e_X12_image_62 hS), e_X12_image_62 hS]
def g_X12_isBefore (s : ryS) (v1 : Int32) (v2 : Int32) : Option (Int32) :=
    rhck (0 ≤ (v1).toInt ∧ (v1).toInt < (246960 : Nat)) <|
    rhck (0 ≤ (v2).toInt ∧ (v2).toInt < (246960 : Nat)) <|
    if (s.1 140 v1.toNatClampNeg) = (s.1 140 v2.toNatClampNeg) then
      (rhck (0 ≤ (v1).toInt ∧ (v1).toInt < (246960 : Nat)) <|
      rhck (0 ≤ (v2).toInt ∧ (v2).toInt < (246960 : Nat)) <|
      if (s.1 139 v1.toNatClampNeg) < (s.1 139 v2.toNatClampNeg) then
        (some 1)
      else
        some 0)
    else
      if (s.1 140 v1.toNatClampNeg) < (s.1 140 v2.toNatClampNeg) then
        (some 1)
      else
        some 0
set_option maxHeartbeats 400000 in
set_option maxRecDepth 100000 in
theorem e_X12_isBefore {Γ : rhG} {R : Nat → Nat → Nat} (hS : ShS Γ R) {s : ryS} : ∀ (v1 : Int32) (v2 : Int32), f_X12_isBefore Γ (ryM s R) 102 v1 v2 = g_X12_isBefore s v1 v2 := by
  intros
  simp only [f_X12_isBefore, g_X12_isBefore, rhck, ryM_1, ryM_2, ryM_3, ry_si, ry_sl, if_true, ry_ck, Option.map_some, Option.map_none, ry_ite, ry_bm, ry_mb, Nat.add_assoc, Nat.reduceAdd, Option.some_bind, Option.bind_some, ssk_102 hS, ssk_139 hS, ssk_140 hS, ssl_139 hS, ssl_140 hS, ssr_102_56 hS, ssr_102_57 hS]
def g_X12_isFull (s : ryS) : Option (Int32) :=
    (g_X12_isWord s ((1918986604 : Int64))).bind fun r1 =>
    if r1 = 0 then
      ((g_X12_isWord s ((448546567013 : Int64))).bind fun r2 =>
      if r2 = 0 then
        ((g_X12_isWord s ((108187867505765 : Int64))).bind fun r3 =>
        if r3 = 0 then
          ((g_X12_isWord s ((1852138347 : Int64))).bind fun r4 =>
          if r4 = 0 then
            ((g_X12_isWord s ((431415719795 : Int64))).bind fun r5 =>
            if r5 = 0 then
              ((g_X12_isWord s ((7102839 : Int64))).bind fun r6 =>
              if r6 = 0 then
                (some 1)
              else
                rhck (0 ≤ (s.1 102 35).toInt ∧ (s.1 102 35).toInt < (2 : Nat)) <|
                if (s.1 119 (s.1 102 35).toNatClampNeg) = 0 then
                  (some 0)
                else
                  some 1)
            else
              rhck (0 ≤ (s.1 102 35).toInt ∧ (s.1 102 35).toInt < (2 : Nat)) <|
              rhck (s.1 118 (s.1 102 35).toNatClampNeg = 0 ∨ s.1 118 (s.1 102 35).toNatClampNeg = 1) <|
              some (s.1 118 (s.1 102 35).toNatClampNeg))
          else
            rhck (0 ≤ (s.1 102 35).toInt ∧ (s.1 102 35).toInt < (2 : Nat)) <|
            rhck (s.1 117 (s.1 102 35).toNatClampNeg = 0 ∨ s.1 117 (s.1 102 35).toNatClampNeg = 1) <|
            some (s.1 117 (s.1 102 35).toNatClampNeg))
        else
          rhck (0 ≤ (s.1 102 35).toInt ∧ (s.1 102 35).toInt < (2 : Nat)) <|
          if (s.1 107 (s.1 102 35).toNatClampNeg) = 20 then
            (some 1)
          else
            some 0)
      else
        rhck (0 ≤ (s.1 102 35).toInt ∧ (s.1 102 35).toInt < (2 : Nat)) <|
        if (s.1 106 (s.1 102 35).toNatClampNeg) = 8 then
          (some 1)
        else
          some 0)
    else
      rhck (0 ≤ (s.1 102 35).toInt ∧ (s.1 102 35).toInt < (2 : Nat)) <|
      if (s.1 105 (s.1 102 35).toNatClampNeg) = 5 then
        (some 1)
      else
        some 0
set_option maxHeartbeats 400000 in
set_option maxRecDepth 100000 in
theorem e_X12_isFull {Γ : rhG} {R : Nat → Nat → Nat} (hS : ShS Γ R) {s : ryS} : f_X12_isFull Γ (ryM s R) 102 = g_X12_isFull s := by
  intros
  simp only [f_X12_isFull, g_X12_isFull, rhck, ryM_1, ryM_2, ryM_3, ry_si, ry_sl, if_true, ry_ck, Option.map_some, Option.map_none, ry_ite, ry_bm, ry_mb, Nat.add_assoc, Nat.reduceAdd, Option.some_bind, Option.bind_some, ssk_102 hS, ssk_105 hS, ssk_106 hS, ssk_107 hS, ssk_117 hS, ssk_118 hS, ssk_119 hS, ssl_105 hS, ssl_106 hS, ssl_107 hS, ssl_117 hS, ssl_118 hS, ssl_119 hS, ssr_102_11 hS, ssr_102_12 hS, ssr_102_13 hS, ssr_102_23 hS, ssr_102_24 hS, ssr_102_25 hS, e_X12_isWord hS, e_X12_isWord hS, e_X12_isWord hS, e_X12_isWord hS, e_X12_isWord hS, e_X12_isWord hS]
def g_X12_worthOfRow_4 (s : ryS) : Nat → Int32 → Int32 → Option (Int32)
  | 0, _, _ => none
  | n + 1, v1, v2 =>
    (g_X12_railMany s).bind fun r1 =>
    if 0 < r1 then
      (rhck (0 ≤ (0 : Int32).toInt ∧ (0 : Int32).toInt < (6 : Nat)) <|
      if v2 < (s.1 129 (0 : Int32).toNatClampNeg) then
        (rhck (0 ≤ (v2 - 1).toInt ∧ (v2 - 1).toInt < (8 : Nat)) <|
        rhck (0 ≤ (v2).toInt ∧ (v2).toInt < (8 : Nat)) <|
        rhck (0 ≤ (((64 * (s.1 102 34)) + (8 * (s.1 128 (v2 - 1).toNatClampNeg))) + (s.1 128 v2.toNatClampNeg)).toInt ∧ (((64 * (s.1 102 34)) + (8 * (s.1 128 (v2 - 1).toNatClampNeg))) + (s.1 128 v2.toNatClampNeg)).toInt < (128 : Nat)) <|
        let x2 := v1 + (s.1 116 (((64 * (s.1 102 34)) + (8 * (s.1 128 (v2 - 1).toNatClampNeg))) + (s.1 128 v2.toNatClampNeg)).toNatClampNeg)
        let x3 : Int32 := v2 + 1
        g_X12_worthOfRow_4 s n x2 x3)
      else
        some v1)
    else
      some v1
def g_X12_worthOfRow (s : ryS) : Option (Int32) :=
    g_X12_worthOfRow_4 s rhFU 0 1
set_option maxHeartbeats 400000 in
set_option maxRecDepth 100000 in
theorem e_X12_worthOfRow_4 {Γ : rhG} {R : Nat → Nat → Nat} (hS : ShS Γ R) {s : ryS} : ∀ (n : Nat) (v1 : Int32) (v2 : Int32), f_X12_worthOfRow_4 Γ (ryM s R) n 102 v1 v2 = g_X12_worthOfRow_4 s n v1 v2 := by
  intro n
  induction n with
  | zero => intros; simp only [f_X12_worthOfRow_4, g_X12_worthOfRow_4, Option.map_none]
  | succ n ih =>
    intros
    simp only [f_X12_worthOfRow_4, g_X12_worthOfRow_4, rhck, ryM_1, ryM_2, ryM_3, ry_si, ry_sl, if_true, ry_ck, Option.map_some, Option.map_none, ry_ite, ry_bm, ry_mb, Nat.add_assoc, Nat.reduceAdd, Option.some_bind, Option.bind_some, ssk_102 hS, ssk_116 hS, ssk_128 hS, ssk_129 hS, ssl_116 hS, ssl_128 hS, ssl_129 hS, ssr_102_22 hS, ssr_102_39 hS, ssr_102_40 hS, e_X12_railMany hS, ih]
set_option maxHeartbeats 400000 in
set_option maxRecDepth 100000 in
theorem e_X12_worthOfRow {Γ : rhG} {R : Nat → Nat → Nat} (hS : ShS Γ R) {s : ryS} : f_X12_worthOfRow Γ (ryM s R) 102 = g_X12_worthOfRow s := by
  intros
  simp only [f_X12_worthOfRow, g_X12_worthOfRow, rhck, ryM_1, ryM_2, ryM_3, ry_si, ry_sl, if_true, ry_ck, Option.map_some, Option.map_none, ry_ite, ry_bm, ry_mb, Nat.add_assoc, Nat.reduceAdd, Option.some_bind, Option.bind_some, e_X12_worthOfRow_4 hS]
def g_X12_judge_21 (k78 : ryS → Int32 → Int32 → Int32 → Option (Int32 × ryS)) (k131 : ryS → Int32 → Int32 → Option (Int32 × ryS)) : Nat → ryS → Int32 → Int32 → Int32 → Option (Int32 × ryS)
  | 0, _, _, _, _ => none
  | n + 1, s, v1, v2, v3 =>
    if v3 < (s.1 102 51) then
      (rhck (0 ≤ (v3).toInt ∧ (v3).toInt < (12 : Nat)) <|
      let x3 := (s.1 135 v3.toNatClampNeg) / 100
      let x4 := ((s.1 135 v3.toNatClampNeg) / 10) - ((s.1 135 v3.toNatClampNeg) / 10) / 10 * 10
      let x5 := (s.1 135 v3.toNatClampNeg) - (s.1 135 v3.toNatClampNeg) / 10 * 10
      (g_X12_isLawful s x3 x4 x5).bind fun r6 =>
      if r6.1 = 0 then
        (k78 r6.2 v1 v2 v3)
      else
        (g_X12_sumOf (16 : Nat) r6.2 114 x3 x4).bind fun r7 =>
        let x8 := v2 + r7
        (g_X12_moves r6.2 x3 x4 x5).bind fun r9 =>
        let x10 : Int32 := v3 + 1
        g_X12_judge_21 k78 k131 n r9 v1 x8 x10)
    else
      k131 s v1 v2
def g_X12_judge_78 (s : ryS) (v1 : Int32) (v2 : Int32) (v3 : Int32) : Option (Int32 × ryS) :=
    if v1 = 0 then
      (some ((v3, s)))
    else
      if v1 = 1 then
        (some ((v2, s)))
      else
        (g_X12_worthOfRow s).bind fun r11 =>
        some ((r11, s))
def g_X12_judge_131 (s : ryS) (v1 : Int32) (v2 : Int32) : Option (Int32 × ryS) :=
    if v1 = 0 then
      (some (((-1), s)))
    else
      if v1 = 1 then
        (some ((v2, s)))
      else
        (g_X12_worthOfRow s).bind fun r12 =>
        some ((r12, s))
def g_X12_judge (s : ryS) (v1 : Int32) : Option (Int32 × ryS) :=
    (g_X12_isIn s v1 (0 : Int32) (2 : Int32)).bind fun r1 =>
    if r1 = 0 then
      (some (((-1000000), s)))
    else
      (g_X12_layNow s).bind fun r2 =>
      g_X12_judge_21 (g_X12_judge_78) (g_X12_judge_131) rhFU r2 v1 0 0
set_option maxHeartbeats 400000 in
set_option maxRecDepth 100000 in
theorem e_X12_judge_21 {Γ : rhG} {R : Nat → Nat → Nat} (hS : ShS Γ R) {f78 : rhM → Nat → Int32 → Int32 → Int32 → Option (Int32 × rhM)} {k78 : ryS → Int32 → Int32 → Int32 → Option (Int32 × ryS)} {f131 : rhM → Nat → Int32 → Int32 → Option (Int32 × rhM)} {k131 : ryS → Int32 → Int32 → Option (Int32 × ryS)} (hk78 : ∀ (s : ryS) (v1 : Int32) (v2 : Int32) (v3 : Int32), f78 (ryM s R) 102 v1 v2 v3 = Option.map (fun q => (q.1, ryM q.2 R)) (k78 s v1 v2 v3)) (hk131 : ∀ (s : ryS) (v1 : Int32) (v2 : Int32), f131 (ryM s R) 102 v1 v2 = Option.map (fun q => (q.1, ryM q.2 R)) (k131 s v1 v2)) : ∀ (n : Nat) (s : ryS) (v1 : Int32) (v2 : Int32) (v3 : Int32), f_X12_judge_21 f78 f131 Γ n (ryM s R) 102 v1 v2 v3 = Option.map (fun q => (q.1, ryM q.2 R)) (g_X12_judge_21 k78 k131 n s v1 v2 v3) := by
  intro n
  induction n with
  | zero => intros; simp only [f_X12_judge_21, g_X12_judge_21, Option.map_none]
  | succ n ih =>
    intros
    simp only [f_X12_judge_21, g_X12_judge_21, rhck, ryM_1, ryM_2, ryM_3, ry_si, ry_sl, if_true, ry_ck, Option.map_some, Option.map_none, ry_ite, ry_bm, ry_mb, Nat.add_assoc, Nat.reduceAdd, Option.some_bind, Option.bind_some, ssk_102 hS, ssk_114 hS, ssk_135 hS, ssl_114 hS, ssl_135 hS, ssr_102_20 hS, ssr_102_50 hS, e_X12_isLawful hS, e_X12_sumOf hS ⟨ssk_114 hS, ssl_114 hS⟩, e_X12_moves hS, hk78, hk131, ih]
set_option maxHeartbeats 400000 in
set_option maxRecDepth 100000 in
theorem e_X12_judge_78 {Γ : rhG} {R : Nat → Nat → Nat} (hS : ShS Γ R) : ∀ (s : ryS) (v1 : Int32) (v2 : Int32) (v3 : Int32), f_X12_judge_78 Γ (ryM s R) 102 v1 v2 v3 = Option.map (fun q => (q.1, ryM q.2 R)) (g_X12_judge_78 s v1 v2 v3) := by
  intros
  simp only [f_X12_judge_78, g_X12_judge_78, rhck, ryM_1, ryM_2, ryM_3, ry_si, ry_sl, if_true, ry_ck, Option.map_some, Option.map_none, ry_ite, ry_bm, ry_mb, Nat.add_assoc, Nat.reduceAdd, Option.some_bind, Option.bind_some, ssk_102 hS, e_X12_worthOfRow hS]
set_option maxHeartbeats 400000 in
set_option maxRecDepth 100000 in
theorem e_X12_judge_131 {Γ : rhG} {R : Nat → Nat → Nat} (hS : ShS Γ R) : ∀ (s : ryS) (v1 : Int32) (v2 : Int32), f_X12_judge_131 Γ (ryM s R) 102 v1 v2 = Option.map (fun q => (q.1, ryM q.2 R)) (g_X12_judge_131 s v1 v2) := by
  intros
  simp only [f_X12_judge_131, g_X12_judge_131, rhck, ryM_1, ryM_2, ryM_3, ry_si, ry_sl, if_true, ry_ck, Option.map_some, Option.map_none, ry_ite, ry_bm, ry_mb, Nat.add_assoc, Nat.reduceAdd, Option.some_bind, Option.bind_some, ssk_102 hS, e_X12_worthOfRow hS]
set_option maxHeartbeats 400000 in
set_option maxRecDepth 100000 in
theorem e_X12_judge {Γ : rhG} {R : Nat → Nat → Nat} (hS : ShS Γ R) : ∀ (s : ryS) (v1 : Int32), f_X12_judge Γ (ryM s R) 102 v1 = Option.map (fun q => (q.1, ryM q.2 R)) (g_X12_judge s v1) := by
  intros
  simp only [f_X12_judge, g_X12_judge, rhck, ryM_1, ryM_2, ryM_3, ry_si, ry_sl, if_true, ry_ck, Option.map_some, Option.map_none, ry_ite, ry_bm, ry_mb, Nat.add_assoc, Nat.reduceAdd, Option.some_bind, Option.bind_some, ssk_102 hS, e_X12_isIn, e_X12_layNow hS, e_X12_judge_21 hS (e_X12_judge_78 hS) (e_X12_judge_131 hS), e_X12_judge_78 hS, e_X12_judge_131 hS]
def g_X12_later (s : ryS) (v1 : Int32) : Option (Int32 × ryS) :=
    (g_X12_isIn s v1 (0 : Int32) (1000 : Int32)).bind fun r1 =>
    if r1 = 0 then
      (some (((-1), s)))
    else
      if 100000 < ((s.1 102 83) + v1) then
        (some (((-1), s)))
      else
        let s2 := rysi s 102 83 ((s.1 102 83) + v1)
        some ((s2.1 102 83, s2))
set_option maxHeartbeats 400000 in
set_option maxRecDepth 100000 in
theorem e_X12_later {Γ : rhG} {R : Nat → Nat → Nat} (hS : ShS Γ R) : ∀ (s : ryS) (v1 : Int32), f_X12_later Γ (ryM s R) 102 v1 = Option.map (fun q => (q.1, ryM q.2 R)) (g_X12_later s v1) := by
  intros
  simp only [f_X12_later, g_X12_later, rhck, ryM_1, ryM_2, ryM_3, ry_si, ry_sl, if_true, ry_ck, Option.map_some, Option.map_none, ry_ite, ry_bm, ry_mb, Nat.add_assoc, Nat.reduceAdd, Option.some_bind, Option.bind_some, ssk_102 hS, e_X12_isIn]
def g_X12_lawful (s : ryS) (v1 : Int32) (v2 : Int32) (v3 : Int32) : Option (Int32 × ryS) :=
    (g_X12_layNow s).bind fun r1 =>
    (g_X12_isLawful r1 v1 v2 v3).bind fun r2 =>
    if r2.1 = 0 then
      (some ((0, r2.2)))
    else
      some ((1, r2.2))
set_option maxHeartbeats 400000 in
set_option maxRecDepth 100000 in
theorem e_X12_lawful {Γ : rhG} {R : Nat → Nat → Nat} (hS : ShS Γ R) : ∀ (s : ryS) (v1 : Int32) (v2 : Int32) (v3 : Int32), f_X12_lawful Γ (ryM s R) 102 v1 v2 v3 = Option.map (fun q => (q.1, ryM q.2 R)) (g_X12_lawful s v1 v2 v3) := by
  intros
  simp only [f_X12_lawful, g_X12_lawful, rhck, ryM_1, ryM_2, ryM_3, ry_si, ry_sl, if_true, ry_ck, Option.map_some, Option.map_none, ry_ite, ry_bm, ry_mb, Nat.add_assoc, Nat.reduceAdd, Option.some_bind, Option.bind_some, ssk_102 hS, e_X12_layNow hS, e_X12_isLawful hS]
def g_X12_nextTight_164 (k51 : ryS → Int32 → Int32 → Int32 → Int32 → Option (Int32 × ryS)) (s : ryS) (v1 : Int32) (v2 : Int32) (v3 : Int32) (v4 : Int32) : Option (Int32 × ryS) :=
    let x7 : Int32 := v4 + 1
    k51 s v1 v2 v3 x7
def g_X12_nextTight_51 (k151 : ryS → Int32 → Int32 → Int32 → Option (Int32 × ryS)) (k170 : ryS → Int32 → Int32 → Int32 → Option (Int32 × ryS)) : Nat → ryS → Int32 → Int32 → Int32 → Int32 → Option (Int32 × ryS)
  | 0, _, _, _, _, _ => none
  | n + 1, s, v1, v2, v3, v4 =>
    (g_X12_railMany s).bind fun r4 =>
    if v4 < r4 then
      ((g_X12_layAt s).bind fun r5 =>
      (g_X12_isLawful r5 v2 v3 v4).bind fun r6 =>
      if r6.1 = 0 then
        (g_X12_nextTight_164 (g_X12_nextTight_51 k151 k170 n) r6.2 v1 v2 v3 v4)
      else
        (g_X12_sumOf (16 : Nat) r6.2 114 v2 v3).bind fun r8 =>
        (g_X12_moves r6.2 v2 v3 v4).bind fun r9 =>
        (g_X12_stateOf r9).bind fun r10 =>
        rhck (0 ≤ (r10).toInt ∧ (r10).toInt < (246960 : Nat)) <|
        if (r9.1 142 r10.toNatClampNeg) = 0 then
          (g_X12_nextTight_164 (g_X12_nextTight_51 k151 k170 n) r9 v1 v2 v3 v4)
        else
          rhck (0 ≤ (r10).toInt ∧ (r10).toInt < (246960 : Nat)) <|
          rhck (0 ≤ (v1).toInt ∧ (v1).toInt < (246960 : Nat)) <|
          if (r9.1 140 r10.toNatClampNeg) = ((r9.1 140 v1.toNatClampNeg) + r8) then
            (rhck (0 ≤ (r10).toInt ∧ (r10).toInt < (246960 : Nat)) <|
            rhck (0 ≤ (v1).toInt ∧ (v1).toInt < (246960 : Nat)) <|
            if (r9.1 139 r10.toNatClampNeg) = ((r9.1 139 v1.toNatClampNeg) + 1) then
              (k151 r9 v2 v3 v4)
            else
              g_X12_nextTight_164 (g_X12_nextTight_51 k151 k170 n) r9 v1 v2 v3 v4)
          else
            g_X12_nextTight_164 (g_X12_nextTight_51 k151 k170 n) r9 v1 v2 v3 v4)
    else
      k170 s v1 v2 v3
def g_X12_nextTight_170 (k21 : ryS → Int32 → Int32 → Int32 → Option (Int32 × ryS)) (s : ryS) (v1 : Int32) (v2 : Int32) (v3 : Int32) : Option (Int32 × ryS) :=
    let x11 : Int32 := v3 + 1
    k21 s v1 v2 x11
def g_X12_nextTight_44 (k21 : ryS → Int32 → Int32 → Int32 → Option (Int32 × ryS)) (k151 : ryS → Int32 → Int32 → Int32 → Option (Int32 × ryS)) (k176 : ryS → Int32 → Int32 → Option (Int32 × ryS)) (s : ryS) (v1 : Int32) (v2 : Int32) (v3 : Int32) (w0 : Int32) (w1 : Int32) (w2 : Int32) : Option (Int32 × ryS) :=
    if (w1 - w2) < w0 then
      (k176 s v1 v2)
    else
      g_X12_nextTight_51 k151 (g_X12_nextTight_170 k21) rhFU s v1 v2 v3 0
def g_X12_nextTight_21 (k151 : ryS → Int32 → Int32 → Int32 → Option (Int32 × ryS)) (k176 : ryS → Int32 → Int32 → Option (Int32 × ryS)) : Nat → ryS → Int32 → Int32 → Int32 → Option (Int32 × ryS)
  | 0, _, _, _, _ => none
  | n + 1, s, v1, v2, v3 =>
    rhck (0 ≤ (v2).toInt ∧ (v2).toInt < (6 : Nat)) <|
    if v2 = 0 then
      (g_X12_nextTight_44 (g_X12_nextTight_21 k151 k176 n) k151 k176 s v1 v2 v3 v3 (s.1 144 v2.toNatClampNeg) 0)
    else
      rhck (0 ≤ (v2 - 1).toInt ∧ (v2 - 1).toInt < (6 : Nat)) <|
      g_X12_nextTight_44 (g_X12_nextTight_21 k151 k176 n) k151 k176 s v1 v2 v3 v3 (s.1 144 v2.toNatClampNeg) (s.1 144 (v2 - 1).toNatClampNeg)
def g_X12_nextTight_176 (k11 : ryS → Int32 → Int32 → Option (Int32 × ryS)) (s : ryS) (v1 : Int32) (v2 : Int32) : Option (Int32 × ryS) :=
    let x12 : Int32 := v2 + 1
    k11 s v1 x12
def g_X12_nextTight_11 (k151 : ryS → Int32 → Int32 → Int32 → Option (Int32 × ryS)) : Nat → ryS → Int32 → Int32 → Option (Int32 × ryS)
  | 0, _, _, _ => none
  | n + 1, s, v1, v2 =>
    (g_X12_railMany s).bind fun r3 =>
    if v2 < r3 then
      (g_X12_nextTight_21 k151 (g_X12_nextTight_176 (g_X12_nextTight_11 k151 n)) rhFU s v1 v2 1)
    else
      some (((-1), s))
def g_X12_nextTight_151 (s : ryS) (v2 : Int32) (v3 : Int32) (v4 : Int32) : Option (Int32 × ryS) :=
    some ((((100 * v2) + (10 * v3)) + v4, s))
def g_X12_nextTight (s : ryS) (v1 : Int32) : Option (Int32 × ryS) :=
    (g_X12_layState s v1).bind fun r1 =>
    (g_X12_keepAt r1).bind fun r2 =>
    g_X12_nextTight_11 (g_X12_nextTight_151) rhFU r2 v1 0
set_option maxHeartbeats 400000 in
set_option maxRecDepth 100000 in
theorem e_X12_nextTight_164 {Γ : rhG} {R : Nat → Nat → Nat} (hS : ShS Γ R) {f51 : rhM → Nat → Int32 → Int32 → Int32 → Int32 → Option (Int32 × rhM)} {k51 : ryS → Int32 → Int32 → Int32 → Int32 → Option (Int32 × ryS)} (hk51 : ∀ (s : ryS) (v1 : Int32) (v2 : Int32) (v3 : Int32) (v4 : Int32), f51 (ryM s R) 102 v1 v2 v3 v4 = Option.map (fun q => (q.1, ryM q.2 R)) (k51 s v1 v2 v3 v4)) : ∀ (s : ryS) (v1 : Int32) (v2 : Int32) (v3 : Int32) (v4 : Int32), f_X12_nextTight_164 f51 Γ (ryM s R) 102 v1 v2 v3 v4 = Option.map (fun q => (q.1, ryM q.2 R)) (g_X12_nextTight_164 k51 s v1 v2 v3 v4) := by
  intros
  simp only [f_X12_nextTight_164, g_X12_nextTight_164, rhck, ryM_1, ryM_2, ryM_3, ry_si, ry_sl, if_true, ry_ck, Option.map_some, Option.map_none, ry_ite, ry_bm, ry_mb, Nat.add_assoc, Nat.reduceAdd, Option.some_bind, Option.bind_some, hk51]
set_option maxHeartbeats 400000 in
set_option maxRecDepth 100000 in
theorem e_X12_nextTight_51 {Γ : rhG} {R : Nat → Nat → Nat} (hS : ShS Γ R) {f151 : rhM → Int32 → Int32 → Int32 → Option (Int32 × rhM)} {k151 : ryS → Int32 → Int32 → Int32 → Option (Int32 × ryS)} {f170 : rhM → Nat → Int32 → Int32 → Int32 → Option (Int32 × rhM)} {k170 : ryS → Int32 → Int32 → Int32 → Option (Int32 × ryS)} (hk151 : ∀ (s : ryS) (v2 : Int32) (v3 : Int32) (v4 : Int32), f151 (ryM s R) v2 v3 v4 = Option.map (fun q => (q.1, ryM q.2 R)) (k151 s v2 v3 v4)) (hk170 : ∀ (s : ryS) (v1 : Int32) (v2 : Int32) (v3 : Int32), f170 (ryM s R) 102 v1 v2 v3 = Option.map (fun q => (q.1, ryM q.2 R)) (k170 s v1 v2 v3)) : ∀ (n : Nat) (s : ryS) (v1 : Int32) (v2 : Int32) (v3 : Int32) (v4 : Int32), f_X12_nextTight_51 f151 f170 Γ n (ryM s R) 102 v1 v2 v3 v4 = Option.map (fun q => (q.1, ryM q.2 R)) (g_X12_nextTight_51 k151 k170 n s v1 v2 v3 v4) := by
  intro n
  induction n with
  | zero => intros; simp only [f_X12_nextTight_51, g_X12_nextTight_51, Option.map_none]
  | succ n ih =>
    intros
    simp only [f_X12_nextTight_51, g_X12_nextTight_51, rhck, ryM_1, ryM_2, ryM_3, ry_si, ry_sl, if_true, ry_ck, Option.map_some, Option.map_none, ry_ite, ry_bm, ry_mb, Nat.add_assoc, Nat.reduceAdd, Option.some_bind, Option.bind_some, ssk_102 hS, ssk_114 hS, ssk_139 hS, ssk_140 hS, ssk_142 hS, ssl_114 hS, ssl_139 hS, ssl_140 hS, ssl_142 hS, ssr_102_20 hS, ssr_102_56 hS, ssr_102_57 hS, ssr_102_59 hS, e_X12_railMany hS, e_X12_layAt hS, e_X12_isLawful hS, e_X12_sumOf hS ⟨ssk_114 hS, ssl_114 hS⟩, e_X12_moves hS, e_X12_stateOf hS, hk151, hk170, e_X12_nextTight_164 hS ih, ih]
set_option maxHeartbeats 400000 in
set_option maxRecDepth 100000 in
theorem e_X12_nextTight_170 {Γ : rhG} {R : Nat → Nat → Nat} (hS : ShS Γ R) {f21 : rhM → Nat → Int32 → Int32 → Int32 → Option (Int32 × rhM)} {k21 : ryS → Int32 → Int32 → Int32 → Option (Int32 × ryS)} (hk21 : ∀ (s : ryS) (v1 : Int32) (v2 : Int32) (v3 : Int32), f21 (ryM s R) 102 v1 v2 v3 = Option.map (fun q => (q.1, ryM q.2 R)) (k21 s v1 v2 v3)) : ∀ (s : ryS) (v1 : Int32) (v2 : Int32) (v3 : Int32), f_X12_nextTight_170 f21 Γ (ryM s R) 102 v1 v2 v3 = Option.map (fun q => (q.1, ryM q.2 R)) (g_X12_nextTight_170 k21 s v1 v2 v3) := by
  intros
  simp only [f_X12_nextTight_170, g_X12_nextTight_170, rhck, ryM_1, ryM_2, ryM_3, ry_si, ry_sl, if_true, ry_ck, Option.map_some, Option.map_none, ry_ite, ry_bm, ry_mb, Nat.add_assoc, Nat.reduceAdd, Option.some_bind, Option.bind_some, hk21]
set_option maxHeartbeats 400000 in
set_option maxRecDepth 100000 in
theorem e_X12_nextTight_44 {Γ : rhG} {R : Nat → Nat → Nat} (hS : ShS Γ R) {f21 : rhM → Nat → Int32 → Int32 → Int32 → Option (Int32 × rhM)} {k21 : ryS → Int32 → Int32 → Int32 → Option (Int32 × ryS)} {f151 : rhM → Int32 → Int32 → Int32 → Option (Int32 × rhM)} {k151 : ryS → Int32 → Int32 → Int32 → Option (Int32 × ryS)} {f176 : rhM → Nat → Int32 → Int32 → Option (Int32 × rhM)} {k176 : ryS → Int32 → Int32 → Option (Int32 × ryS)} (hk21 : ∀ (s : ryS) (v1 : Int32) (v2 : Int32) (v3 : Int32), f21 (ryM s R) 102 v1 v2 v3 = Option.map (fun q => (q.1, ryM q.2 R)) (k21 s v1 v2 v3)) (hk151 : ∀ (s : ryS) (v2 : Int32) (v3 : Int32) (v4 : Int32), f151 (ryM s R) v2 v3 v4 = Option.map (fun q => (q.1, ryM q.2 R)) (k151 s v2 v3 v4)) (hk176 : ∀ (s : ryS) (v1 : Int32) (v2 : Int32), f176 (ryM s R) 102 v1 v2 = Option.map (fun q => (q.1, ryM q.2 R)) (k176 s v1 v2)) : ∀ (s : ryS) (v1 : Int32) (v2 : Int32) (v3 : Int32) (w0 : Int32) (w1 : Int32) (w2 : Int32), f_X12_nextTight_44 f21 f151 f176 Γ (ryM s R) 102 v1 v2 v3 w0 w1 w2 = Option.map (fun q => (q.1, ryM q.2 R)) (g_X12_nextTight_44 k21 k151 k176 s v1 v2 v3 w0 w1 w2) := by
  intros
  simp only [f_X12_nextTight_44, g_X12_nextTight_44, rhck, ryM_1, ryM_2, ryM_3, ry_si, ry_sl, if_true, ry_ck, Option.map_some, Option.map_none, ry_ite, ry_bm, ry_mb, Nat.add_assoc, Nat.reduceAdd, Option.some_bind, Option.bind_some, hk21, hk151, hk176, e_X12_nextTight_51 hS hk151 (e_X12_nextTight_170 hS hk21), e_X12_nextTight_170 hS hk21]
set_option maxHeartbeats 400000 in
set_option maxRecDepth 100000 in
theorem e_X12_nextTight_21 {Γ : rhG} {R : Nat → Nat → Nat} (hS : ShS Γ R) {f151 : rhM → Int32 → Int32 → Int32 → Option (Int32 × rhM)} {k151 : ryS → Int32 → Int32 → Int32 → Option (Int32 × ryS)} {f176 : rhM → Nat → Int32 → Int32 → Option (Int32 × rhM)} {k176 : ryS → Int32 → Int32 → Option (Int32 × ryS)} (hk151 : ∀ (s : ryS) (v2 : Int32) (v3 : Int32) (v4 : Int32), f151 (ryM s R) v2 v3 v4 = Option.map (fun q => (q.1, ryM q.2 R)) (k151 s v2 v3 v4)) (hk176 : ∀ (s : ryS) (v1 : Int32) (v2 : Int32), f176 (ryM s R) 102 v1 v2 = Option.map (fun q => (q.1, ryM q.2 R)) (k176 s v1 v2)) : ∀ (n : Nat) (s : ryS) (v1 : Int32) (v2 : Int32) (v3 : Int32), f_X12_nextTight_21 f151 f176 Γ n (ryM s R) 102 v1 v2 v3 = Option.map (fun q => (q.1, ryM q.2 R)) (g_X12_nextTight_21 k151 k176 n s v1 v2 v3) := by
  intro n
  induction n with
  | zero => intros; simp only [f_X12_nextTight_21, g_X12_nextTight_21, Option.map_none]
  | succ n ih =>
    intros
    simp only [f_X12_nextTight_21, g_X12_nextTight_21, rhck, ryM_1, ryM_2, ryM_3, ry_si, ry_sl, if_true, ry_ck, Option.map_some, Option.map_none, ry_ite, ry_bm, ry_mb, Nat.add_assoc, Nat.reduceAdd, Option.some_bind, Option.bind_some, ssk_102 hS, ssk_144 hS, ssl_144 hS, ssr_102_64 hS, hk151, hk176, e_X12_nextTight_44 hS ih hk151 hk176, ih]
set_option maxHeartbeats 400000 in
set_option maxRecDepth 100000 in
theorem e_X12_nextTight_176 {Γ : rhG} {R : Nat → Nat → Nat} (hS : ShS Γ R) {f11 : rhM → Nat → Int32 → Int32 → Option (Int32 × rhM)} {k11 : ryS → Int32 → Int32 → Option (Int32 × ryS)} (hk11 : ∀ (s : ryS) (v1 : Int32) (v2 : Int32), f11 (ryM s R) 102 v1 v2 = Option.map (fun q => (q.1, ryM q.2 R)) (k11 s v1 v2)) : ∀ (s : ryS) (v1 : Int32) (v2 : Int32), f_X12_nextTight_176 f11 Γ (ryM s R) 102 v1 v2 = Option.map (fun q => (q.1, ryM q.2 R)) (g_X12_nextTight_176 k11 s v1 v2) := by
  intros
  simp only [f_X12_nextTight_176, g_X12_nextTight_176, rhck, ryM_1, ryM_2, ryM_3, ry_si, ry_sl, if_true, ry_ck, Option.map_some, Option.map_none, ry_ite, ry_bm, ry_mb, Nat.add_assoc, Nat.reduceAdd, Option.some_bind, Option.bind_some, hk11]
set_option maxHeartbeats 400000 in
set_option maxRecDepth 100000 in
theorem e_X12_nextTight_11 {Γ : rhG} {R : Nat → Nat → Nat} (hS : ShS Γ R) {f151 : rhM → Int32 → Int32 → Int32 → Option (Int32 × rhM)} {k151 : ryS → Int32 → Int32 → Int32 → Option (Int32 × ryS)} (hk151 : ∀ (s : ryS) (v2 : Int32) (v3 : Int32) (v4 : Int32), f151 (ryM s R) v2 v3 v4 = Option.map (fun q => (q.1, ryM q.2 R)) (k151 s v2 v3 v4)) : ∀ (n : Nat) (s : ryS) (v1 : Int32) (v2 : Int32), f_X12_nextTight_11 f151 Γ n (ryM s R) 102 v1 v2 = Option.map (fun q => (q.1, ryM q.2 R)) (g_X12_nextTight_11 k151 n s v1 v2) := by
  intro n
  induction n with
  | zero => intros; simp only [f_X12_nextTight_11, g_X12_nextTight_11, Option.map_none]
  | succ n ih =>
    intros
    simp only [f_X12_nextTight_11, g_X12_nextTight_11, rhck, ryM_1, ryM_2, ryM_3, ry_si, ry_sl, if_true, ry_ck, Option.map_some, Option.map_none, ry_ite, ry_bm, ry_mb, Nat.add_assoc, Nat.reduceAdd, Option.some_bind, Option.bind_some, ssk_102 hS, e_X12_railMany hS, hk151, e_X12_nextTight_21 hS hk151 (e_X12_nextTight_176 hS ih), e_X12_nextTight_176 hS ih, ih]
set_option maxHeartbeats 400000 in
set_option maxRecDepth 100000 in
theorem e_X12_nextTight_151 {Γ : rhG} {R : Nat → Nat → Nat} (hS : ShS Γ R) : ∀ (s : ryS) (v2 : Int32) (v3 : Int32) (v4 : Int32), f_X12_nextTight_151 Γ (ryM s R) v2 v3 v4 = Option.map (fun q => (q.1, ryM q.2 R)) (g_X12_nextTight_151 s v2 v3 v4) := by
  intros
  simp only [f_X12_nextTight_151, g_X12_nextTight_151, rhck, ryM_1, ryM_2, ryM_3, ry_si, ry_sl, if_true, ry_ck, Option.map_some, Option.map_none, ry_ite, ry_bm, ry_mb, Nat.add_assoc, Nat.reduceAdd, Option.some_bind, Option.bind_some]
set_option maxHeartbeats 400000 in
set_option maxRecDepth 100000 in
theorem e_X12_nextTight {Γ : rhG} {R : Nat → Nat → Nat} (hS : ShS Γ R) : ∀ (s : ryS) (v1 : Int32), f_X12_nextTight Γ (ryM s R) 102 v1 = Option.map (fun q => (q.1, ryM q.2 R)) (g_X12_nextTight s v1) := by
  intros
  simp only [f_X12_nextTight, g_X12_nextTight, rhck, ryM_1, ryM_2, ryM_3, ry_si, ry_sl, if_true, ry_ck, Option.map_some, Option.map_none, ry_ite, ry_bm, ry_mb, Nat.add_assoc, Nat.reduceAdd, Option.some_bind, Option.bind_some, ssk_102 hS, e_X12_layState hS, e_X12_keepAt hS, e_X12_nextTight_11 hS (e_X12_nextTight_151 hS), e_X12_nextTight_151 hS]
def g_X12_layLightest_46 (k11 : ryS → Int32 → Int32 → Option (ryS)) (s : ryS) (v1 : Int32) (v3 : Int32) (w0 : Int32) : Option (ryS) :=
    if w0 = 0 then
      (k11 s v1 w0)
    else
      rhck (0 ≤ (s.1 102 66).toInt ∧ (s.1 102 66).toInt < (61000 : Nat)) <|
      let s6 := rysi s 145 (s.1 102 66 : Int32).toNatClampNeg v3
      let s7 := rysi s6 102 66 ((s6.1 102 66) + 1)
      (g_X12_stateOf s7).bind fun r8 =>
      k11 s7 r8 w0
def g_X12_layLightest_36 (k11 : ryS → Int32 → Int32 → Option (ryS)) (s : ryS) (v1 : Int32) (w0 : Int32) : Option (ryS) :=
    if w0 < 0 then
      (g_X12_layLightest_46 k11 s v1 w0 0)
    else
      g_X12_layLightest_46 k11 s v1 w0 1
def g_X12_layLightest_11 : Nat → ryS → Int32 → Int32 → Option (ryS)
  | 0, _, _, _ => none
  | n + 1, s, v1, v2 =>
    if v2 = 0 then
      (some s)
    else
      (g_X12_layState s v1).bind fun r3 =>
      (g_X12_isEnd r3).bind fun r4 =>
      if r4 = 0 then
        ((g_X12_nextTight r3 v1).bind fun r5 =>
        g_X12_layLightest_36 (g_X12_layLightest_11 n) r5.2 v1 r5.1)
      else
        g_X12_layLightest_36 (g_X12_layLightest_11 n) r3 v1 ((-1))
def g_X12_layLightest (s : ryS) : Option (ryS) :=
    (g_X12_layNow s).bind fun r1 =>
    (g_X12_stateOf r1).bind fun r2 =>
    g_X12_layLightest_11 rhFU r1 r2 1
set_option maxHeartbeats 400000 in
set_option maxRecDepth 100000 in
theorem e_X12_layLightest_46 {Γ : rhG} {R : Nat → Nat → Nat} (hS : ShS Γ R) {f11 : rhM → Nat → Int32 → Int32 → Option (rhM)} {k11 : ryS → Int32 → Int32 → Option (ryS)} (hk11 : ∀ (s : ryS) (v1 : Int32) (v2 : Int32), f11 (ryM s R) 102 v1 v2 = Option.map (fun s => ryM s R) (k11 s v1 v2)) : ∀ (s : ryS) (v1 : Int32) (v3 : Int32) (w0 : Int32), f_X12_layLightest_46 f11 Γ (ryM s R) 102 v1 v3 w0 = Option.map (fun s => ryM s R) (g_X12_layLightest_46 k11 s v1 v3 w0) := by
  intros
  simp only [f_X12_layLightest_46, g_X12_layLightest_46, rhck, ryM_1, ryM_2, ryM_3, ry_si, ry_sl, if_true, ry_ck, Option.map_some, Option.map_none, ry_ite, ry_bm, ry_mb, Nat.add_assoc, Nat.reduceAdd, Option.some_bind, Option.bind_some, ssk_102 hS, ssk_145 hS, ssl_145 hS, ssr_102_65 hS, e_X12_stateOf hS, hk11]
set_option maxHeartbeats 400000 in
set_option maxRecDepth 100000 in
theorem e_X12_layLightest_36 {Γ : rhG} {R : Nat → Nat → Nat} (hS : ShS Γ R) {f11 : rhM → Nat → Int32 → Int32 → Option (rhM)} {k11 : ryS → Int32 → Int32 → Option (ryS)} (hk11 : ∀ (s : ryS) (v1 : Int32) (v2 : Int32), f11 (ryM s R) 102 v1 v2 = Option.map (fun s => ryM s R) (k11 s v1 v2)) : ∀ (s : ryS) (v1 : Int32) (w0 : Int32), f_X12_layLightest_36 f11 Γ (ryM s R) 102 v1 w0 = Option.map (fun s => ryM s R) (g_X12_layLightest_36 k11 s v1 w0) := by
  intros
  simp only [f_X12_layLightest_36, g_X12_layLightest_36, rhck, ryM_1, ryM_2, ryM_3, ry_si, ry_sl, if_true, ry_ck, Option.map_some, Option.map_none, ry_ite, ry_bm, ry_mb, Nat.add_assoc, Nat.reduceAdd, Option.some_bind, Option.bind_some, hk11, e_X12_layLightest_46 hS hk11]
set_option maxHeartbeats 400000 in
set_option maxRecDepth 100000 in
theorem e_X12_layLightest_11 {Γ : rhG} {R : Nat → Nat → Nat} (hS : ShS Γ R) : ∀ (n : Nat) (s : ryS) (v1 : Int32) (v2 : Int32), f_X12_layLightest_11 Γ n (ryM s R) 102 v1 v2 = Option.map (fun s => ryM s R) (g_X12_layLightest_11 n s v1 v2) := by
  intro n
  induction n with
  | zero => intros; simp only [f_X12_layLightest_11, g_X12_layLightest_11, Option.map_none]
  | succ n ih =>
    intros
    simp only [f_X12_layLightest_11, g_X12_layLightest_11, rhck, ryM_1, ryM_2, ryM_3, ry_si, ry_sl, if_true, ry_ck, Option.map_some, Option.map_none, ry_ite, ry_bm, ry_mb, Nat.add_assoc, Nat.reduceAdd, Option.some_bind, Option.bind_some, ssk_102 hS, e_X12_layState hS, e_X12_isEnd hS, e_X12_nextTight hS, e_X12_layLightest_36 hS ih, ih]
set_option maxHeartbeats 400000 in
set_option maxRecDepth 100000 in
theorem e_X12_layLightest {Γ : rhG} {R : Nat → Nat → Nat} (hS : ShS Γ R) : ∀ (s : ryS), f_X12_layLightest Γ (ryM s R) 102 = Option.map (fun s => ryM s R) (g_X12_layLightest s) := by
  intros
  simp only [f_X12_layLightest, g_X12_layLightest, rhck, ryM_1, ryM_2, ryM_3, ry_si, ry_sl, if_true, ry_ck, Option.map_some, Option.map_none, ry_ite, ry_bm, ry_mb, Nat.add_assoc, Nat.reduceAdd, Option.some_bind, Option.bind_some, ssk_102 hS, e_X12_layNow hS, e_X12_stateOf hS, e_X12_layLightest_11 hS]
def g_X12_put (s : ryS) (v1 : Int32) (v2 : Int32) : Option (ryS) :=
    rhck (0 ≤ (v1).toInt ∧ (v1).toInt < (61000 : Nat)) <|
    let s1 := rysi s 146 (v1 : Int32).toNatClampNeg v2
    rhck (0 ≤ (v2).toInt ∧ (v2).toInt < (246960 : Nat)) <|
    let s2 := rysi s1 147 (v2 : Int32).toNatClampNeg v1
    some s2
set_option maxHeartbeats 400000 in
set_option maxRecDepth 100000 in
theorem e_X12_put {Γ : rhG} {R : Nat → Nat → Nat} (hS : ShS Γ R) : ∀ (s : ryS) (v1 : Int32) (v2 : Int32), f_X12_put Γ (ryM s R) 102 v1 v2 = Option.map (fun s => ryM s R) (g_X12_put s v1 v2) := by
  intros
  simp only [f_X12_put, g_X12_put, rhck, ryM_1, ryM_2, ryM_3, ry_si, ry_sl, if_true, ry_ck, Option.map_some, Option.map_none, ry_ite, ry_bm, ry_mb, Nat.add_assoc, Nat.reduceAdd, Option.some_bind, Option.bind_some, ssk_102 hS, ssk_146 hS, ssk_147 hS, ssl_146 hS, ssl_147 hS, ssr_102_67 hS, ssr_102_68 hS]
def g_X12_rise_7 (k53 : ryS → Int32 → Int32 → Option (ryS)) : Nat → ryS → Int32 → Int32 → Option (ryS)
  | 0, _, _, _ => none
  | n + 1, s, v1, v2 =>
    if 0 < v2 then
      (rhck (0 ≤ ((v2 - 1) / 2).toInt ∧ ((v2 - 1) / 2).toInt < (61000 : Nat)) <|
      (g_X12_isBefore s v1 (s.1 146 ((v2 - 1) / 2).toNatClampNeg)).bind fun r2 =>
      if r2 = 0 then
        (k53 s v1 v2)
      else
        (g_X12_put s v2 (s.1 146 ((v2 - 1) / 2).toNatClampNeg)).bind fun r3 =>
        let x4 := (v2 - 1) / 2
        g_X12_rise_7 k53 n r3 v1 x4)
    else
      k53 s v1 v2
def g_X12_rise_53 (s : ryS) (v1 : Int32) (v2 : Int32) : Option (ryS) :=
    (g_X12_put s v2 v1).bind fun r5 =>
    some r5
def g_X12_rise (s : ryS) (v1 : Int32) : Option (ryS) :=
    rhck (0 ≤ (v1).toInt ∧ (v1).toInt < (246960 : Nat)) <|
    let x1 := s.1 147 v1.toNatClampNeg
    g_X12_rise_7 (g_X12_rise_53) rhFU s v1 x1
set_option maxHeartbeats 400000 in
set_option maxRecDepth 100000 in
theorem e_X12_rise_7 {Γ : rhG} {R : Nat → Nat → Nat} (hS : ShS Γ R) {f53 : rhM → Nat → Int32 → Int32 → Option (rhM)} {k53 : ryS → Int32 → Int32 → Option (ryS)} (hk53 : ∀ (s : ryS) (v1 : Int32) (v2 : Int32), f53 (ryM s R) 102 v1 v2 = Option.map (fun s => ryM s R) (k53 s v1 v2)) : ∀ (n : Nat) (s : ryS) (v1 : Int32) (v2 : Int32), f_X12_rise_7 f53 Γ n (ryM s R) 102 v1 v2 = Option.map (fun s => ryM s R) (g_X12_rise_7 k53 n s v1 v2) := by
  intro n
  induction n with
  | zero => intros; simp only [f_X12_rise_7, g_X12_rise_7, Option.map_none]
  | succ n ih =>
    intros
    simp only [f_X12_rise_7, g_X12_rise_7, rhck, ryM_1, ryM_2, ryM_3, ry_si, ry_sl, if_true, ry_ck, Option.map_some, Option.map_none, ry_ite, ry_bm, ry_mb, Nat.add_assoc, Nat.reduceAdd, Option.some_bind, Option.bind_some, ssk_102 hS, ssk_146 hS, ssl_146 hS, ssr_102_67 hS, e_X12_isBefore hS, e_X12_put hS, hk53, ih]
set_option maxHeartbeats 400000 in
set_option maxRecDepth 100000 in
theorem e_X12_rise_53 {Γ : rhG} {R : Nat → Nat → Nat} (hS : ShS Γ R) : ∀ (s : ryS) (v1 : Int32) (v2 : Int32), f_X12_rise_53 Γ (ryM s R) 102 v1 v2 = Option.map (fun s => ryM s R) (g_X12_rise_53 s v1 v2) := by
  intros
  simp only [f_X12_rise_53, g_X12_rise_53, rhck, ryM_1, ryM_2, ryM_3, ry_si, ry_sl, if_true, ry_ck, Option.map_some, Option.map_none, ry_ite, ry_bm, ry_mb, Nat.add_assoc, Nat.reduceAdd, Option.some_bind, Option.bind_some, ssk_102 hS, e_X12_put hS]
set_option maxHeartbeats 400000 in
set_option maxRecDepth 100000 in
theorem e_X12_rise {Γ : rhG} {R : Nat → Nat → Nat} (hS : ShS Γ R) : ∀ (s : ryS) (v1 : Int32), f_X12_rise Γ (ryM s R) 102 v1 = Option.map (fun s => ryM s R) (g_X12_rise s v1) := by
  intros
  simp only [f_X12_rise, g_X12_rise, rhck, ryM_1, ryM_2, ryM_3, ry_si, ry_sl, if_true, ry_ck, Option.map_some, Option.map_none, ry_ite, ry_bm, ry_mb, Nat.add_assoc, Nat.reduceAdd, Option.some_bind, Option.bind_some, ssk_102 hS, ssk_147 hS, ssl_147 hS, ssr_102_68 hS, e_X12_rise_7 hS (e_X12_rise_53 hS), e_X12_rise_53 hS]
def g_X12_reaches_91 (s : ryS) (v1 : Int32) : Option (ryS) :=
    (g_X12_rise s v1).bind fun r3 =>
    some r3
def g_X12_reaches_52 (s : ryS) (v1 : Int32) (v2 : Int32) (v3 : Int32) (v4 : Int32) : Option (ryS) :=
    rhck (0 ≤ (v1).toInt ∧ (v1).toInt < (246960 : Nat)) <|
    let s1 := rysi s 140 (v1 : Int32).toNatClampNeg v2
    rhck (0 ≤ (v1).toInt ∧ (v1).toInt < (246960 : Nat)) <|
    let s2 := rysi s1 139 (v1 : Int32).toNatClampNeg v3
    if v4 = 0 then
      (g_X12_reaches_91 s2 v1)
    else
      rhck (0 ≤ (v1).toInt ∧ (v1).toInt < (246960 : Nat)) <|
      let s4 := rysi s2 147 (v1 : Int32).toNatClampNeg ((s2.1 102 70))
      let s5 := rysi s4 102 70 ((s4.1 102 70) + 1)
      g_X12_reaches_91 s5 v1
def g_X12_reaches_14 (s : ryS) (v1 : Int32) (v2 : Int32) (v3 : Int32) (w0 : Int32) : Option (ryS) :=
    if w0 = 0 then
      (rhck (0 ≤ (v1).toInt ∧ (v1).toInt < (246960 : Nat)) <|
      if (s.1 140 v1.toNatClampNeg) < v2 then
        (some s)
      else
        if (s.1 140 v1.toNatClampNeg) = v2 then
          (rhck (0 ≤ (v1).toInt ∧ (v1).toInt < (246960 : Nat)) <|
          if v3 < (s.1 139 v1.toNatClampNeg) then
            (g_X12_reaches_52 s v1 v2 v3 w0)
          else
            some s)
        else
          g_X12_reaches_52 s v1 v2 v3 w0)
    else
      g_X12_reaches_52 s v1 v2 v3 w0
def g_X12_reaches (s : ryS) (v1 : Int32) (v2 : Int32) (v3 : Int32) : Option (ryS) :=
    rhck (0 ≤ (v1).toInt ∧ (v1).toInt < (246960 : Nat)) <|
    if (s.1 139 v1.toNatClampNeg) < 0 then
      (g_X12_reaches_14 s v1 v2 v3 1)
    else
      g_X12_reaches_14 s v1 v2 v3 0
set_option maxHeartbeats 400000 in
set_option maxRecDepth 100000 in
theorem e_X12_reaches_91 {Γ : rhG} {R : Nat → Nat → Nat} (hS : ShS Γ R) : ∀ (s : ryS) (v1 : Int32), f_X12_reaches_91 Γ (ryM s R) 102 v1 = Option.map (fun s => ryM s R) (g_X12_reaches_91 s v1) := by
  intros
  simp only [f_X12_reaches_91, g_X12_reaches_91, rhck, ryM_1, ryM_2, ryM_3, ry_si, ry_sl, if_true, ry_ck, Option.map_some, Option.map_none, ry_ite, ry_bm, ry_mb, Nat.add_assoc, Nat.reduceAdd, Option.some_bind, Option.bind_some, ssk_102 hS, e_X12_rise hS]
set_option maxHeartbeats 400000 in
set_option maxRecDepth 100000 in
theorem e_X12_reaches_52 {Γ : rhG} {R : Nat → Nat → Nat} (hS : ShS Γ R) : ∀ (s : ryS) (v1 : Int32) (v2 : Int32) (v3 : Int32) (v4 : Int32), f_X12_reaches_52 Γ (ryM s R) 102 v1 v2 v3 v4 = Option.map (fun s => ryM s R) (g_X12_reaches_52 s v1 v2 v3 v4) := by
  intros
  simp only [f_X12_reaches_52, g_X12_reaches_52, rhck, ryM_1, ryM_2, ryM_3, ry_si, ry_sl, if_true, ry_ck, Option.map_some, Option.map_none, ry_ite, ry_bm, ry_mb, Nat.add_assoc, Nat.reduceAdd, Option.some_bind, Option.bind_some, ssk_102 hS, ssk_139 hS, ssk_140 hS, ssk_147 hS, ssl_139 hS, ssl_140 hS, ssl_147 hS, ssr_102_56 hS, ssr_102_57 hS, ssr_102_68 hS, e_X12_reaches_91 hS]
set_option maxHeartbeats 400000 in
set_option maxRecDepth 100000 in
theorem e_X12_reaches_14 {Γ : rhG} {R : Nat → Nat → Nat} (hS : ShS Γ R) : ∀ (s : ryS) (v1 : Int32) (v2 : Int32) (v3 : Int32) (w0 : Int32), f_X12_reaches_14 Γ (ryM s R) 102 v1 v2 v3 w0 = Option.map (fun s => ryM s R) (g_X12_reaches_14 s v1 v2 v3 w0) := by
  intros
  simp only [f_X12_reaches_14, g_X12_reaches_14, rhck, ryM_1, ryM_2, ryM_3, ry_si, ry_sl, if_true, ry_ck, Option.map_some, Option.map_none, ry_ite, ry_bm, ry_mb, Nat.add_assoc, Nat.reduceAdd, Option.some_bind, Option.bind_some, ssk_102 hS, ssk_139 hS, ssk_140 hS, ssl_139 hS, ssl_140 hS, ssr_102_56 hS, ssr_102_57 hS, e_X12_reaches_52 hS]
set_option maxHeartbeats 400000 in
set_option maxRecDepth 100000 in
theorem e_X12_reaches {Γ : rhG} {R : Nat → Nat → Nat} (hS : ShS Γ R) : ∀ (s : ryS) (v1 : Int32) (v2 : Int32) (v3 : Int32), f_X12_reaches Γ (ryM s R) 102 v1 v2 v3 = Option.map (fun s => ryM s R) (g_X12_reaches s v1 v2 v3) := by
  intros
  simp only [f_X12_reaches, g_X12_reaches, rhck, ryM_1, ryM_2, ryM_3, ry_si, ry_sl, if_true, ry_ck, Option.map_some, Option.map_none, ry_ite, ry_bm, ry_mb, Nat.add_assoc, Nat.reduceAdd, Option.some_bind, Option.bind_some, ssk_102 hS, ssk_139 hS, ssl_139 hS, ssr_102_56 hS, e_X12_reaches_14 hS]
def g_X12_takeFirst_120 (k121 : ryS → Int32 → Int32 → Int32 → Int32 → Int32 → Option (Int32 × ryS)) (s : ryS) (v1 : Int32) (v2 : Int32) (v3 : Int32) (v5 : Int32) : Option (Int32 × ryS) :=
    k121 s v1 v2 v3 v5 0
def g_X12_takeFirst_121 (k43 : ryS → Int32 → Int32 → Int32 → Int32 → Option (Int32 × ryS)) (s : ryS) (v1 : Int32) (v2 : Int32) (v3 : Int32) (v5 : Int32) (w0 : Int32) : Option (Int32 × ryS) :=
    if w0 = 0 then
      (k43 s v1 v2 v3 w0)
    else
      rhck (0 ≤ (v5).toInt ∧ (v5).toInt < (61000 : Nat)) <|
      (g_X12_put s v3 (s.1 146 v5.toNatClampNeg)).bind fun r7 =>
      k43 r7 v1 v2 v5 w0
def g_X12_takeFirst_92 (k43 : ryS → Int32 → Int32 → Int32 → Int32 → Option (Int32 × ryS)) (s : ryS) (v1 : Int32) (v2 : Int32) (v3 : Int32) (v5 : Int32) : Option (Int32 × ryS) :=
    if v5 < (s.1 102 70) then
      (rhck (0 ≤ (v5).toInt ∧ (v5).toInt < (61000 : Nat)) <|
      (g_X12_isBefore s (s.1 146 v5.toNatClampNeg) v2).bind fun r6 =>
      if r6 = 0 then
        (g_X12_takeFirst_120 (g_X12_takeFirst_121 k43) s v1 v2 v3 v5)
      else
        g_X12_takeFirst_121 k43 s v1 v2 v3 v5 1)
    else
      g_X12_takeFirst_120 (g_X12_takeFirst_121 k43) s v1 v2 v3 v5
def g_X12_takeFirst_43 (k149 : ryS → Int32 → Int32 → Int32 → Option (Int32 × ryS)) : Nat → ryS → Int32 → Int32 → Int32 → Int32 → Option (Int32 × ryS)
  | 0, _, _, _, _, _ => none
  | n + 1, s, v1, v2, v3, v4 =>
    if v4 = 0 then
      (k149 s v1 v2 v3)
    else
      let x4 := (2 * v3) + 1
      if (x4 + 1) < (s.1 102 70) then
        (rhck (0 ≤ (x4 + 1).toInt ∧ (x4 + 1).toInt < (61000 : Nat)) <|
        rhck (0 ≤ (x4).toInt ∧ (x4).toInt < (61000 : Nat)) <|
        (g_X12_isBefore s (s.1 146 (x4 + 1).toNatClampNeg) (s.1 146 x4.toNatClampNeg)).bind fun r5 =>
        if r5 = 0 then
          (g_X12_takeFirst_92 (g_X12_takeFirst_43 k149 n) s v1 v2 v3 x4)
        else
          let x8 : Int32 := x4 + 1
          g_X12_takeFirst_92 (g_X12_takeFirst_43 k149 n) s v1 v2 v3 x8)
      else
        g_X12_takeFirst_92 (g_X12_takeFirst_43 k149 n) s v1 v2 v3 x4
def g_X12_takeFirst_162 (s : ryS) (v1 : Int32) : Option (Int32 × ryS) :=
    rhck (0 ≤ (v1).toInt ∧ (v1).toInt < (246960 : Nat)) <|
    let s10 := rysi s 147 (v1 : Int32).toNatClampNeg (((-1)))
    some ((v1, s10))
def g_X12_takeFirst_149 (s : ryS) (v1 : Int32) (v2 : Int32) (v3 : Int32) : Option (Int32 × ryS) :=
    if 0 < (s.1 102 70) then
      ((g_X12_put s v3 v2).bind fun r9 =>
      g_X12_takeFirst_162 r9 v1)
    else
      g_X12_takeFirst_162 s v1
def g_X12_takeFirst_41 (s : ryS) (v1 : Int32) (v2 : Int32) (v3 : Int32) (w0 : Int32) : Option (Int32 × ryS) :=
    g_X12_takeFirst_43 (g_X12_takeFirst_149) rhFU s v1 v2 v3 w0
def g_X12_takeFirst (s : ryS) : Option (Int32 × ryS) :=
    rhck (0 ≤ (0 : Int32).toInt ∧ (0 : Int32).toInt < (61000 : Nat)) <|
    let x1 := s.1 146 (0 : Int32).toNatClampNeg
    let s2 := rysi s 102 70 ((s.1 102 70) - 1)
    rhck (0 ≤ (s2.1 102 70).toInt ∧ (s2.1 102 70).toInt < (61000 : Nat)) <|
    let x3 := s2.1 146 (s2.1 102 70).toNatClampNeg
    if 0 < (s2.1 102 70) then
      (g_X12_takeFirst_41 s2 x1 x3 0 1)
    else
      g_X12_takeFirst_41 s2 x1 x3 0 0
set_option maxHeartbeats 400000 in
set_option maxRecDepth 100000 in
theorem e_X12_takeFirst_120 {Γ : rhG} {R : Nat → Nat → Nat} (hS : ShS Γ R) {f121 : rhM → Nat → Int32 → Int32 → Int32 → Int32 → Int32 → Option (Int32 × rhM)} {k121 : ryS → Int32 → Int32 → Int32 → Int32 → Int32 → Option (Int32 × ryS)} (hk121 : ∀ (s : ryS) (v1 : Int32) (v2 : Int32) (v3 : Int32) (v5 : Int32) (w0 : Int32), f121 (ryM s R) 102 v1 v2 v3 v5 w0 = Option.map (fun q => (q.1, ryM q.2 R)) (k121 s v1 v2 v3 v5 w0)) : ∀ (s : ryS) (v1 : Int32) (v2 : Int32) (v3 : Int32) (v5 : Int32), f_X12_takeFirst_120 f121 Γ (ryM s R) 102 v1 v2 v3 v5 = Option.map (fun q => (q.1, ryM q.2 R)) (g_X12_takeFirst_120 k121 s v1 v2 v3 v5) := by
  intros
  simp only [f_X12_takeFirst_120, g_X12_takeFirst_120, rhck, ryM_1, ryM_2, ryM_3, ry_si, ry_sl, if_true, ry_ck, Option.map_some, Option.map_none, ry_ite, ry_bm, ry_mb, Nat.add_assoc, Nat.reduceAdd, Option.some_bind, Option.bind_some, hk121]
set_option maxHeartbeats 400000 in
set_option maxRecDepth 100000 in
theorem e_X12_takeFirst_121 {Γ : rhG} {R : Nat → Nat → Nat} (hS : ShS Γ R) {f43 : rhM → Nat → Int32 → Int32 → Int32 → Int32 → Option (Int32 × rhM)} {k43 : ryS → Int32 → Int32 → Int32 → Int32 → Option (Int32 × ryS)} (hk43 : ∀ (s : ryS) (v1 : Int32) (v2 : Int32) (v3 : Int32) (v4 : Int32), f43 (ryM s R) 102 v1 v2 v3 v4 = Option.map (fun q => (q.1, ryM q.2 R)) (k43 s v1 v2 v3 v4)) : ∀ (s : ryS) (v1 : Int32) (v2 : Int32) (v3 : Int32) (v5 : Int32) (w0 : Int32), f_X12_takeFirst_121 f43 Γ (ryM s R) 102 v1 v2 v3 v5 w0 = Option.map (fun q => (q.1, ryM q.2 R)) (g_X12_takeFirst_121 k43 s v1 v2 v3 v5 w0) := by
  intros
  simp only [f_X12_takeFirst_121, g_X12_takeFirst_121, rhck, ryM_1, ryM_2, ryM_3, ry_si, ry_sl, if_true, ry_ck, Option.map_some, Option.map_none, ry_ite, ry_bm, ry_mb, Nat.add_assoc, Nat.reduceAdd, Option.some_bind, Option.bind_some, ssk_102 hS, ssk_146 hS, ssl_146 hS, ssr_102_67 hS, e_X12_put hS, hk43]
set_option maxHeartbeats 400000 in
set_option maxRecDepth 100000 in
theorem e_X12_takeFirst_92 {Γ : rhG} {R : Nat → Nat → Nat} (hS : ShS Γ R) {f43 : rhM → Nat → Int32 → Int32 → Int32 → Int32 → Option (Int32 × rhM)} {k43 : ryS → Int32 → Int32 → Int32 → Int32 → Option (Int32 × ryS)} (hk43 : ∀ (s : ryS) (v1 : Int32) (v2 : Int32) (v3 : Int32) (v4 : Int32), f43 (ryM s R) 102 v1 v2 v3 v4 = Option.map (fun q => (q.1, ryM q.2 R)) (k43 s v1 v2 v3 v4)) : ∀ (s : ryS) (v1 : Int32) (v2 : Int32) (v3 : Int32) (v5 : Int32), f_X12_takeFirst_92 f43 Γ (ryM s R) 102 v1 v2 v3 v5 = Option.map (fun q => (q.1, ryM q.2 R)) (g_X12_takeFirst_92 k43 s v1 v2 v3 v5) := by
  intros
  simp only [f_X12_takeFirst_92, g_X12_takeFirst_92, rhck, ryM_1, ryM_2, ryM_3, ry_si, ry_sl, if_true, ry_ck, Option.map_some, Option.map_none, ry_ite, ry_bm, ry_mb, Nat.add_assoc, Nat.reduceAdd, Option.some_bind, Option.bind_some, ssk_102 hS, ssk_146 hS, ssl_146 hS, ssr_102_67 hS, e_X12_isBefore hS, hk43, e_X12_takeFirst_120 hS (e_X12_takeFirst_121 hS hk43), e_X12_takeFirst_121 hS hk43]
set_option maxHeartbeats 400000 in
set_option maxRecDepth 100000 in
theorem e_X12_takeFirst_43 {Γ : rhG} {R : Nat → Nat → Nat} (hS : ShS Γ R) {f149 : rhM → Nat → Int32 → Int32 → Int32 → Option (Int32 × rhM)} {k149 : ryS → Int32 → Int32 → Int32 → Option (Int32 × ryS)} (hk149 : ∀ (s : ryS) (v1 : Int32) (v2 : Int32) (v3 : Int32), f149 (ryM s R) 102 v1 v2 v3 = Option.map (fun q => (q.1, ryM q.2 R)) (k149 s v1 v2 v3)) : ∀ (n : Nat) (s : ryS) (v1 : Int32) (v2 : Int32) (v3 : Int32) (v4 : Int32), f_X12_takeFirst_43 f149 Γ n (ryM s R) 102 v1 v2 v3 v4 = Option.map (fun q => (q.1, ryM q.2 R)) (g_X12_takeFirst_43 k149 n s v1 v2 v3 v4) := by
  intro n
  induction n with
  | zero => intros; simp only [f_X12_takeFirst_43, g_X12_takeFirst_43, Option.map_none]
  | succ n ih =>
    intros
    simp only [f_X12_takeFirst_43, g_X12_takeFirst_43, rhck, ryM_1, ryM_2, ryM_3, ry_si, ry_sl, if_true, ry_ck, Option.map_some, Option.map_none, ry_ite, ry_bm, ry_mb, Nat.add_assoc, Nat.reduceAdd, Option.some_bind, Option.bind_some, ssk_102 hS, ssk_146 hS, ssl_146 hS, ssr_102_67 hS, e_X12_isBefore hS, hk149, e_X12_takeFirst_92 hS ih, ih]
set_option maxHeartbeats 400000 in
set_option maxRecDepth 100000 in
theorem e_X12_takeFirst_162 {Γ : rhG} {R : Nat → Nat → Nat} (hS : ShS Γ R) : ∀ (s : ryS) (v1 : Int32), f_X12_takeFirst_162 Γ (ryM s R) 102 v1 = Option.map (fun q => (q.1, ryM q.2 R)) (g_X12_takeFirst_162 s v1) := by
  intros
  simp only [f_X12_takeFirst_162, g_X12_takeFirst_162, rhck, ryM_1, ryM_2, ryM_3, ry_si, ry_sl, if_true, ry_ck, Option.map_some, Option.map_none, ry_ite, ry_bm, ry_mb, Nat.add_assoc, Nat.reduceAdd, Option.some_bind, Option.bind_some, ssk_102 hS, ssk_147 hS, ssl_147 hS, ssr_102_68 hS]
set_option maxHeartbeats 400000 in
set_option maxRecDepth 100000 in
theorem e_X12_takeFirst_149 {Γ : rhG} {R : Nat → Nat → Nat} (hS : ShS Γ R) : ∀ (s : ryS) (v1 : Int32) (v2 : Int32) (v3 : Int32), f_X12_takeFirst_149 Γ (ryM s R) 102 v1 v2 v3 = Option.map (fun q => (q.1, ryM q.2 R)) (g_X12_takeFirst_149 s v1 v2 v3) := by
  intros
  simp only [f_X12_takeFirst_149, g_X12_takeFirst_149, rhck, ryM_1, ryM_2, ryM_3, ry_si, ry_sl, if_true, ry_ck, Option.map_some, Option.map_none, ry_ite, ry_bm, ry_mb, Nat.add_assoc, Nat.reduceAdd, Option.some_bind, Option.bind_some, ssk_102 hS, e_X12_put hS, e_X12_takeFirst_162 hS]
set_option maxHeartbeats 400000 in
set_option maxRecDepth 100000 in
theorem e_X12_takeFirst_41 {Γ : rhG} {R : Nat → Nat → Nat} (hS : ShS Γ R) : ∀ (s : ryS) (v1 : Int32) (v2 : Int32) (v3 : Int32) (w0 : Int32), f_X12_takeFirst_41 Γ (ryM s R) 102 v1 v2 v3 w0 = Option.map (fun q => (q.1, ryM q.2 R)) (g_X12_takeFirst_41 s v1 v2 v3 w0) := by
  intros
  simp only [f_X12_takeFirst_41, g_X12_takeFirst_41, rhck, ryM_1, ryM_2, ryM_3, ry_si, ry_sl, if_true, ry_ck, Option.map_some, Option.map_none, ry_ite, ry_bm, ry_mb, Nat.add_assoc, Nat.reduceAdd, Option.some_bind, Option.bind_some, e_X12_takeFirst_43 hS (e_X12_takeFirst_149 hS), e_X12_takeFirst_149 hS]
set_option maxHeartbeats 400000 in
set_option maxRecDepth 100000 in
theorem e_X12_takeFirst {Γ : rhG} {R : Nat → Nat → Nat} (hS : ShS Γ R) : ∀ (s : ryS), f_X12_takeFirst Γ (ryM s R) 102 = Option.map (fun q => (q.1, ryM q.2 R)) (g_X12_takeFirst s) := by
  intros
  simp only [f_X12_takeFirst, g_X12_takeFirst, rhck, ryM_1, ryM_2, ryM_3, ry_si, ry_sl, if_true, ry_ck, Option.map_some, Option.map_none, ry_ite, ry_bm, ry_mb, Nat.add_assoc, Nat.reduceAdd, Option.some_bind, Option.bind_some, ssk_102 hS, ssk_146 hS, ssl_146 hS, ssr_102_67 hS, e_X12_takeFirst_41 hS]
def g_X12_settle_2 (k21 : ryS → Option (ryS)) : Nat → ryS → Int32 → Option (ryS)
  | 0, _, _ => none
  | n + 1, s, v1 =>
    if v1 < 246960 then
      (rhck (0 ≤ (v1).toInt ∧ (v1).toInt < (246960 : Nat)) <|
      let s1 := rysi s 139 (v1 : Int32).toNatClampNeg (((-1)))
      let x2 : Int32 := v1 + 1
      g_X12_settle_2 k21 n s1 x2)
    else
      k21 s
def g_X12_settle_200 (k128 : ryS → Int32 → Int32 → Int32 → Int32 → Option (ryS)) (s : ryS) (v1 : Int32) (v2 : Int32) (v3 : Int32) (v4 : Int32) : Option (ryS) :=
    let x18 : Int32 := v4 + 1
    k128 s v1 v2 v3 x18
def g_X12_settle_128 (k206 : ryS → Int32 → Int32 → Int32 → Option (ryS)) : Nat → ryS → Int32 → Int32 → Int32 → Int32 → Option (ryS)
  | 0, _, _, _, _, _ => none
  | n + 1, s, v1, v2, v3, v4 =>
    (g_X12_railMany s).bind fun r15 =>
    if v4 < r15 then
      ((g_X12_layAt s).bind fun r16 =>
      (g_X12_isLawful r16 v2 v3 v4).bind fun r17 =>
      if r17.1 = 0 then
        (g_X12_settle_200 (g_X12_settle_128 k206 n) r17.2 v1 v2 v3 v4)
      else
        (g_X12_sumOf (16 : Nat) r17.2 114 v2 v3).bind fun r19 =>
        (g_X12_moves r17.2 v2 v3 v4).bind fun r20 =>
        (g_X12_stateOf r20).bind fun r21 =>
        rhck (0 ≤ (v1).toInt ∧ (v1).toInt < (246960 : Nat)) <|
        rhck (0 ≤ (v1).toInt ∧ (v1).toInt < (246960 : Nat)) <|
        (g_X12_reaches r20 r21 ((r20.1 140 v1.toNatClampNeg) + r19) ((r20.1 139 v1.toNatClampNeg) + 1)).bind fun r22 =>
        g_X12_settle_200 (g_X12_settle_128 k206 n) r22 v1 v2 v3 v4)
    else
      k206 s v1 v2 v3
def g_X12_settle_206 (k98 : ryS → Int32 → Int32 → Int32 → Option (ryS)) (s : ryS) (v1 : Int32) (v2 : Int32) (v3 : Int32) : Option (ryS) :=
    let x23 : Int32 := v3 + 1
    k98 s v1 v2 x23
def g_X12_settle_121 (k98 : ryS → Int32 → Int32 → Int32 → Option (ryS)) (k212 : ryS → Int32 → Int32 → Option (ryS)) (s : ryS) (v1 : Int32) (v2 : Int32) (v3 : Int32) (w0 : Int32) (w1 : Int32) (w2 : Int32) : Option (ryS) :=
    if (w1 - w2) < w0 then
      (k212 s v1 v2)
    else
      g_X12_settle_128 (g_X12_settle_206 k98) rhFU s v1 v2 v3 0
def g_X12_settle_98 (k212 : ryS → Int32 → Int32 → Option (ryS)) : Nat → ryS → Int32 → Int32 → Int32 → Option (ryS)
  | 0, _, _, _, _ => none
  | n + 1, s, v1, v2, v3 =>
    rhck (0 ≤ (v2).toInt ∧ (v2).toInt < (6 : Nat)) <|
    if v2 = 0 then
      (g_X12_settle_121 (g_X12_settle_98 k212 n) k212 s v1 v2 v3 v3 (s.1 144 v2.toNatClampNeg) 0)
    else
      rhck (0 ≤ (v2 - 1).toInt ∧ (v2 - 1).toInt < (6 : Nat)) <|
      g_X12_settle_121 (g_X12_settle_98 k212 n) k212 s v1 v2 v3 v3 (s.1 144 v2.toNatClampNeg) (s.1 144 (v2 - 1).toNatClampNeg)
def g_X12_settle_212 (k88 : ryS → Int32 → Int32 → Option (ryS)) (s : ryS) (v1 : Int32) (v2 : Int32) : Option (ryS) :=
    let x24 : Int32 := v2 + 1
    k88 s v1 x24
def g_X12_settle_88 (k218 : ryS → Option (ryS)) : Nat → ryS → Int32 → Int32 → Option (ryS)
  | 0, _, _, _ => none
  | n + 1, s, v1, v2 =>
    (g_X12_railMany s).bind fun r14 =>
    if v2 < r14 then
      (g_X12_settle_98 (g_X12_settle_212 (g_X12_settle_88 k218 n)) rhFU s v1 v2 1)
    else
      k218 s
def g_X12_settle_218 (k45 : ryS → Option (ryS)) (s : ryS) : Option (ryS) :=
    k45 s
def g_X12_settle_45 : Nat → ryS → Option (ryS)
  | 0, _ => none
  | n + 1, s =>
    if 0 < (s.1 102 70) then
      ((g_X12_takeFirst s).bind fun r8 =>
      let x9 := r8.1
      rhck (0 ≤ (r8.2.1 102 71).toInt ∧ (r8.2.1 102 71).toInt < (61000 : Nat)) <|
      let s10 := rysi r8.2 148 (r8.2.1 102 71 : Int32).toNatClampNeg x9
      let s11 := rysi s10 102 71 ((s10.1 102 71) + 1)
      (g_X12_layState s11 x9).bind fun r12 =>
      (g_X12_keepAt r12).bind fun r13 =>
      g_X12_settle_88 (g_X12_settle_218 (g_X12_settle_45 n)) rhFU r13 x9 0)
    else
      some s
def g_X12_settle_21 (s : ryS) : Option (ryS) :=
    let s3 := rysi s 102 70 0
    let s4 := rysi s3 102 71 0
    (g_X12_layNow s4).bind fun r5 =>
    (g_X12_stateOf r5).bind fun r6 =>
    (g_X12_reaches r5 r6 (0 : Int32) (0 : Int32)).bind fun r7 =>
    g_X12_settle_45 rhFU r7
def g_X12_settle (s : ryS) : Option (ryS) :=
    g_X12_settle_2 (g_X12_settle_21) rhFU s 0
set_option maxHeartbeats 400000 in
set_option maxRecDepth 100000 in
theorem e_X12_settle_2 {Γ : rhG} {R : Nat → Nat → Nat} (hS : ShS Γ R) {f21 : rhM → Nat → Option (rhM)} {k21 : ryS → Option (ryS)} (hk21 : ∀ (s : ryS), f21 (ryM s R) 102 = Option.map (fun s => ryM s R) (k21 s)) : ∀ (n : Nat) (s : ryS) (v1 : Int32), f_X12_settle_2 f21 Γ n (ryM s R) 102 v1 = Option.map (fun s => ryM s R) (g_X12_settle_2 k21 n s v1) := by
  intro n
  induction n with
  | zero => intros; simp only [f_X12_settle_2, g_X12_settle_2, Option.map_none]
  | succ n ih =>
    intros
    simp only [f_X12_settle_2, g_X12_settle_2, rhck, ryM_1, ryM_2, ryM_3, ry_si, ry_sl, if_true, ry_ck, Option.map_some, Option.map_none, ry_ite, ry_bm, ry_mb, Nat.add_assoc, Nat.reduceAdd, Option.some_bind, Option.bind_some, ssk_102 hS, ssk_139 hS, ssl_139 hS, ssr_102_56 hS, hk21, ih]
set_option maxHeartbeats 400000 in
set_option maxRecDepth 100000 in
theorem e_X12_settle_200 {Γ : rhG} {R : Nat → Nat → Nat} (hS : ShS Γ R) {f128 : rhM → Nat → Int32 → Int32 → Int32 → Int32 → Option (rhM)} {k128 : ryS → Int32 → Int32 → Int32 → Int32 → Option (ryS)} (hk128 : ∀ (s : ryS) (v1 : Int32) (v2 : Int32) (v3 : Int32) (v4 : Int32), f128 (ryM s R) 102 v1 v2 v3 v4 = Option.map (fun s => ryM s R) (k128 s v1 v2 v3 v4)) : ∀ (s : ryS) (v1 : Int32) (v2 : Int32) (v3 : Int32) (v4 : Int32), f_X12_settle_200 f128 Γ (ryM s R) 102 v1 v2 v3 v4 = Option.map (fun s => ryM s R) (g_X12_settle_200 k128 s v1 v2 v3 v4) := by
  intros
  simp only [f_X12_settle_200, g_X12_settle_200, rhck, ryM_1, ryM_2, ryM_3, ry_si, ry_sl, if_true, ry_ck, Option.map_some, Option.map_none, ry_ite, ry_bm, ry_mb, Nat.add_assoc, Nat.reduceAdd, Option.some_bind, Option.bind_some, hk128]
set_option maxHeartbeats 400000 in
set_option maxRecDepth 100000 in
theorem e_X12_settle_128 {Γ : rhG} {R : Nat → Nat → Nat} (hS : ShS Γ R) {f206 : rhM → Nat → Int32 → Int32 → Int32 → Option (rhM)} {k206 : ryS → Int32 → Int32 → Int32 → Option (ryS)} (hk206 : ∀ (s : ryS) (v1 : Int32) (v2 : Int32) (v3 : Int32), f206 (ryM s R) 102 v1 v2 v3 = Option.map (fun s => ryM s R) (k206 s v1 v2 v3)) : ∀ (n : Nat) (s : ryS) (v1 : Int32) (v2 : Int32) (v3 : Int32) (v4 : Int32), f_X12_settle_128 f206 Γ n (ryM s R) 102 v1 v2 v3 v4 = Option.map (fun s => ryM s R) (g_X12_settle_128 k206 n s v1 v2 v3 v4) := by
  intro n
  induction n with
  | zero => intros; simp only [f_X12_settle_128, g_X12_settle_128, Option.map_none]
  | succ n ih =>
    intros
    simp only [f_X12_settle_128, g_X12_settle_128, rhck, ryM_1, ryM_2, ryM_3, ry_si, ry_sl, if_true, ry_ck, Option.map_some, Option.map_none, ry_ite, ry_bm, ry_mb, Nat.add_assoc, Nat.reduceAdd, Option.some_bind, Option.bind_some, ssk_102 hS, ssk_114 hS, ssk_139 hS, ssk_140 hS, ssl_114 hS, ssl_139 hS, ssl_140 hS, ssr_102_20 hS, ssr_102_56 hS, ssr_102_57 hS, e_X12_railMany hS, e_X12_layAt hS, e_X12_isLawful hS, e_X12_sumOf hS ⟨ssk_114 hS, ssl_114 hS⟩, e_X12_moves hS, e_X12_stateOf hS, e_X12_reaches hS, hk206, e_X12_settle_200 hS ih, ih]
set_option maxHeartbeats 400000 in
set_option maxRecDepth 100000 in
theorem e_X12_settle_206 {Γ : rhG} {R : Nat → Nat → Nat} (hS : ShS Γ R) {f98 : rhM → Nat → Int32 → Int32 → Int32 → Option (rhM)} {k98 : ryS → Int32 → Int32 → Int32 → Option (ryS)} (hk98 : ∀ (s : ryS) (v1 : Int32) (v2 : Int32) (v3 : Int32), f98 (ryM s R) 102 v1 v2 v3 = Option.map (fun s => ryM s R) (k98 s v1 v2 v3)) : ∀ (s : ryS) (v1 : Int32) (v2 : Int32) (v3 : Int32), f_X12_settle_206 f98 Γ (ryM s R) 102 v1 v2 v3 = Option.map (fun s => ryM s R) (g_X12_settle_206 k98 s v1 v2 v3) := by
  intros
  simp only [f_X12_settle_206, g_X12_settle_206, rhck, ryM_1, ryM_2, ryM_3, ry_si, ry_sl, if_true, ry_ck, Option.map_some, Option.map_none, ry_ite, ry_bm, ry_mb, Nat.add_assoc, Nat.reduceAdd, Option.some_bind, Option.bind_some, hk98]
set_option maxHeartbeats 400000 in
set_option maxRecDepth 100000 in
theorem e_X12_settle_121 {Γ : rhG} {R : Nat → Nat → Nat} (hS : ShS Γ R) {f98 : rhM → Nat → Int32 → Int32 → Int32 → Option (rhM)} {k98 : ryS → Int32 → Int32 → Int32 → Option (ryS)} {f212 : rhM → Nat → Int32 → Int32 → Option (rhM)} {k212 : ryS → Int32 → Int32 → Option (ryS)} (hk98 : ∀ (s : ryS) (v1 : Int32) (v2 : Int32) (v3 : Int32), f98 (ryM s R) 102 v1 v2 v3 = Option.map (fun s => ryM s R) (k98 s v1 v2 v3)) (hk212 : ∀ (s : ryS) (v1 : Int32) (v2 : Int32), f212 (ryM s R) 102 v1 v2 = Option.map (fun s => ryM s R) (k212 s v1 v2)) : ∀ (s : ryS) (v1 : Int32) (v2 : Int32) (v3 : Int32) (w0 : Int32) (w1 : Int32) (w2 : Int32), f_X12_settle_121 f98 f212 Γ (ryM s R) 102 v1 v2 v3 w0 w1 w2 = Option.map (fun s => ryM s R) (g_X12_settle_121 k98 k212 s v1 v2 v3 w0 w1 w2) := by
  intros
  simp only [f_X12_settle_121, g_X12_settle_121, rhck, ryM_1, ryM_2, ryM_3, ry_si, ry_sl, if_true, ry_ck, Option.map_some, Option.map_none, ry_ite, ry_bm, ry_mb, Nat.add_assoc, Nat.reduceAdd, Option.some_bind, Option.bind_some, hk98, hk212, e_X12_settle_128 hS (e_X12_settle_206 hS hk98), e_X12_settle_206 hS hk98]
set_option maxHeartbeats 400000 in
set_option maxRecDepth 100000 in
theorem e_X12_settle_98 {Γ : rhG} {R : Nat → Nat → Nat} (hS : ShS Γ R) {f212 : rhM → Nat → Int32 → Int32 → Option (rhM)} {k212 : ryS → Int32 → Int32 → Option (ryS)} (hk212 : ∀ (s : ryS) (v1 : Int32) (v2 : Int32), f212 (ryM s R) 102 v1 v2 = Option.map (fun s => ryM s R) (k212 s v1 v2)) : ∀ (n : Nat) (s : ryS) (v1 : Int32) (v2 : Int32) (v3 : Int32), f_X12_settle_98 f212 Γ n (ryM s R) 102 v1 v2 v3 = Option.map (fun s => ryM s R) (g_X12_settle_98 k212 n s v1 v2 v3) := by
  intro n
  induction n with
  | zero => intros; simp only [f_X12_settle_98, g_X12_settle_98, Option.map_none]
  | succ n ih =>
    intros
    simp only [f_X12_settle_98, g_X12_settle_98, rhck, ryM_1, ryM_2, ryM_3, ry_si, ry_sl, if_true, ry_ck, Option.map_some, Option.map_none, ry_ite, ry_bm, ry_mb, Nat.add_assoc, Nat.reduceAdd, Option.some_bind, Option.bind_some, ssk_102 hS, ssk_144 hS, ssl_144 hS, ssr_102_64 hS, hk212, e_X12_settle_121 hS ih hk212, ih]
set_option maxHeartbeats 400000 in
set_option maxRecDepth 100000 in
theorem e_X12_settle_212 {Γ : rhG} {R : Nat → Nat → Nat} (hS : ShS Γ R) {f88 : rhM → Nat → Int32 → Int32 → Option (rhM)} {k88 : ryS → Int32 → Int32 → Option (ryS)} (hk88 : ∀ (s : ryS) (v1 : Int32) (v2 : Int32), f88 (ryM s R) 102 v1 v2 = Option.map (fun s => ryM s R) (k88 s v1 v2)) : ∀ (s : ryS) (v1 : Int32) (v2 : Int32), f_X12_settle_212 f88 Γ (ryM s R) 102 v1 v2 = Option.map (fun s => ryM s R) (g_X12_settle_212 k88 s v1 v2) := by
  intros
  simp only [f_X12_settle_212, g_X12_settle_212, rhck, ryM_1, ryM_2, ryM_3, ry_si, ry_sl, if_true, ry_ck, Option.map_some, Option.map_none, ry_ite, ry_bm, ry_mb, Nat.add_assoc, Nat.reduceAdd, Option.some_bind, Option.bind_some, hk88]
set_option maxHeartbeats 400000 in
set_option maxRecDepth 100000 in
theorem e_X12_settle_88 {Γ : rhG} {R : Nat → Nat → Nat} (hS : ShS Γ R) {f218 : rhM → Nat → Option (rhM)} {k218 : ryS → Option (ryS)} (hk218 : ∀ (s : ryS), f218 (ryM s R) 102 = Option.map (fun s => ryM s R) (k218 s)) : ∀ (n : Nat) (s : ryS) (v1 : Int32) (v2 : Int32), f_X12_settle_88 f218 Γ n (ryM s R) 102 v1 v2 = Option.map (fun s => ryM s R) (g_X12_settle_88 k218 n s v1 v2) := by
  intro n
  induction n with
  | zero => intros; simp only [f_X12_settle_88, g_X12_settle_88, Option.map_none]
  | succ n ih =>
    intros
    simp only [f_X12_settle_88, g_X12_settle_88, rhck, ryM_1, ryM_2, ryM_3, ry_si, ry_sl, if_true, ry_ck, Option.map_some, Option.map_none, ry_ite, ry_bm, ry_mb, Nat.add_assoc, Nat.reduceAdd, Option.some_bind, Option.bind_some, ssk_102 hS, e_X12_railMany hS, hk218, e_X12_settle_98 hS (e_X12_settle_212 hS ih), e_X12_settle_212 hS ih, ih]
set_option maxHeartbeats 400000 in
set_option maxRecDepth 100000 in
theorem e_X12_settle_218 {Γ : rhG} {R : Nat → Nat → Nat} (hS : ShS Γ R) {f45 : rhM → Nat → Option (rhM)} {k45 : ryS → Option (ryS)} (hk45 : ∀ (s : ryS), f45 (ryM s R) 102 = Option.map (fun s => ryM s R) (k45 s)) : ∀ (s : ryS), f_X12_settle_218 f45 Γ (ryM s R) 102 = Option.map (fun s => ryM s R) (g_X12_settle_218 k45 s) := by
  intros
  simp only [f_X12_settle_218, g_X12_settle_218, rhck, ryM_1, ryM_2, ryM_3, ry_si, ry_sl, if_true, ry_ck, Option.map_some, Option.map_none, ry_ite, ry_bm, ry_mb, Nat.add_assoc, Nat.reduceAdd, Option.some_bind, Option.bind_some, hk45]
set_option maxHeartbeats 400000 in
set_option maxRecDepth 100000 in
theorem e_X12_settle_45 {Γ : rhG} {R : Nat → Nat → Nat} (hS : ShS Γ R) : ∀ (n : Nat) (s : ryS), f_X12_settle_45 Γ n (ryM s R) 102 = Option.map (fun s => ryM s R) (g_X12_settle_45 n s) := by
  intro n
  induction n with
  | zero => intros; simp only [f_X12_settle_45, g_X12_settle_45, Option.map_none]
  | succ n ih =>
    intros
    simp only [f_X12_settle_45, g_X12_settle_45, rhck, ryM_1, ryM_2, ryM_3, ry_si, ry_sl, if_true, ry_ck, Option.map_some, Option.map_none, ry_ite, ry_bm, ry_mb, Nat.add_assoc, Nat.reduceAdd, Option.some_bind, Option.bind_some, ssk_102 hS, ssk_148 hS, ssl_148 hS, ssr_102_69 hS, e_X12_takeFirst hS, e_X12_layState hS, e_X12_keepAt hS, e_X12_settle_88 hS (e_X12_settle_218 hS ih), e_X12_settle_218 hS ih, ih]
set_option maxHeartbeats 400000 in
set_option maxRecDepth 100000 in
theorem e_X12_settle_21 {Γ : rhG} {R : Nat → Nat → Nat} (hS : ShS Γ R) : ∀ (s : ryS), f_X12_settle_21 Γ (ryM s R) 102 = Option.map (fun s => ryM s R) (g_X12_settle_21 s) := by
  intros
  simp only [f_X12_settle_21, g_X12_settle_21, rhck, ryM_1, ryM_2, ryM_3, ry_si, ry_sl, if_true, ry_ck, Option.map_some, Option.map_none, ry_ite, ry_bm, ry_mb, Nat.add_assoc, Nat.reduceAdd, Option.some_bind, Option.bind_some, ssk_102 hS, e_X12_layNow hS, e_X12_stateOf hS, e_X12_reaches hS, e_X12_settle_45 hS]
set_option maxHeartbeats 400000 in
set_option maxRecDepth 100000 in
theorem e_X12_settle {Γ : rhG} {R : Nat → Nat → Nat} (hS : ShS Γ R) : ∀ (s : ryS), f_X12_settle Γ (ryM s R) 102 = Option.map (fun s => ryM s R) (g_X12_settle s) := by
  intros
  simp only [f_X12_settle, g_X12_settle, rhck, ryM_1, ryM_2, ryM_3, ry_si, ry_sl, if_true, ry_ck, Option.map_some, Option.map_none, ry_ite, ry_bm, ry_mb, Nat.add_assoc, Nat.reduceAdd, Option.some_bind, Option.bind_some, e_X12_settle_2 hS (e_X12_settle_21 hS), e_X12_settle_21 hS]
def g_X12_least_64 (k28 : ryS → Int32 → Int32 → Option (Int32 × ryS)) (s : ryS) (v1 : Int32) (v2 : Int32) : Option (Int32 × ryS) :=
    let x7 : Int32 := v2 + 1
    k28 s v1 x7
def g_X12_least_28 (k70 : ryS → Int32 → Option (Int32 × ryS)) : Nat → ryS → Int32 → Int32 → Option (Int32 × ryS)
  | 0, _, _, _ => none
  | n + 1, s, v1, v2 =>
    if v2 < (s.1 102 71) then
      (if v1 < 0 then
        (rhck (0 ≤ (v2).toInt ∧ (v2).toInt < (61000 : Nat)) <|
        (g_X12_layState s (s.1 148 v2.toNatClampNeg)).bind fun r5 =>
        (g_X12_isEnd r5).bind fun r6 =>
        if r6 = 0 then
          (g_X12_least_64 (g_X12_least_28 k70 n) r5 v1 v2)
        else
          let x8 := r5.1 148 v2.toNatClampNeg
          g_X12_least_64 (g_X12_least_28 k70 n) r5 x8 v2)
      else
        k70 s v1)
    else
      k70 s v1
def g_X12_least_78 (k104 : ryS → Int32 → Option (Int32 × ryS)) : Nat → ryS → Int32 → Int32 → Option (Int32 × ryS)
  | 0, _, _, _ => none
  | n + 1, s, v1, v2 =>
    if v2 < (s.1 102 71) then
      (rhck (0 ≤ (v2).toInt ∧ (v2).toInt < (61000 : Nat)) <|
      rhck (0 ≤ (s.1 148 v2.toNatClampNeg).toInt ∧ (s.1 148 v2.toNatClampNeg).toInt < (246960 : Nat)) <|
      let s9 := rysi s 142 (s.1 148 v2.toNatClampNeg : Int32).toNatClampNeg ((vp_nar .boolean 0))
      let x10 : Int32 := v2 + 1
      g_X12_least_78 k104 n s9 v1 x10)
    else
      k104 s v1
def g_X12_least_160 (k168 : ryS → Int32 → Int32 → Int32 → Option (Int32 × ryS)) (k173 : ryS → Int32 → Int32 → Int32 → Int32 → Option (Int32 × ryS)) (s : ryS) (v1 : Int32) (v2 : Int32) (v3 : Int32) (w1 : Int32) : Option (Int32 × ryS) :=
    (g_X12_nextTight s v3).bind fun r17 =>
    if r17.1 < 0 then
      (k173 r17.2 v1 v2 w1 0)
    else
      k168 r17.2 v1 v2 w1
def g_X12_least_168 (k173 : ryS → Int32 → Int32 → Int32 → Int32 → Option (Int32 × ryS)) (s : ryS) (v1 : Int32) (v2 : Int32) (w1 : Int32) : Option (Int32 × ryS) :=
    k173 s v1 v2 w1 1
def g_X12_least_173 (k174 : ryS → Int32 → Int32 → Option (Int32 × ryS)) (s : ryS) (v1 : Int32) (v2 : Int32) (w1 : Int32) (w2 : Int32) : Option (Int32 × ryS) :=
    rhck (0 ≤ (w1).toInt ∧ (w1).toInt < (246960 : Nat)) <|
    let s18 := rysi s 142 (w1 : Int32).toNatClampNeg ((vp_nar .boolean w2))
    k174 s18 v1 v2
def g_X12_least_174 (k111 : ryS → Int32 → Int32 → Option (Int32 × ryS)) (s : ryS) (v1 : Int32) (v2 : Int32) : Option (Int32 × ryS) :=
    let x19 : Int32 := v2 + (-1)
    k111 s v1 x19
def g_X12_least_111 (k180 : ryS → Int32 → Option (Int32 × ryS)) : Nat → ryS → Int32 → Int32 → Option (Int32 × ryS)
  | 0, _, _, _ => none
  | n + 1, s, v1, v2 =>
    if v2 < 0 then
      (k180 s v1)
    else
      rhck (0 ≤ (v2).toInt ∧ (v2).toInt < (61000 : Nat)) <|
      let x12 := s.1 148 v2.toNatClampNeg
      (g_X12_isBefore s v1 x12).bind fun r13 =>
      if r13 = 0 then
        ((g_X12_layState s x12).bind fun r14 =>
        (g_X12_isBefore r14 x12 v1).bind fun r15 =>
        if r15 = 0 then
          ((g_X12_isEnd r14).bind fun r16 =>
          if r16 = 0 then
            (g_X12_least_160 (g_X12_least_168 (g_X12_least_173 (g_X12_least_174 (g_X12_least_111 k180 n)))) (g_X12_least_173 (g_X12_least_174 (g_X12_least_111 k180 n))) r14 v1 v2 x12 x12)
          else
            g_X12_least_168 (g_X12_least_173 (g_X12_least_174 (g_X12_least_111 k180 n))) r14 v1 v2 x12)
        else
          g_X12_least_160 (g_X12_least_168 (g_X12_least_173 (g_X12_least_174 (g_X12_least_111 k180 n)))) (g_X12_least_173 (g_X12_least_174 (g_X12_least_111 k180 n))) r14 v1 v2 x12 x12)
      else
        g_X12_least_174 (g_X12_least_111 k180 n) s v1 v2
def g_X12_least_180 (s : ryS) (v1 : Int32) : Option (Int32 × ryS) :=
    (g_X12_layLightest s).bind fun r20 =>
    rhck (0 ≤ (v1).toInt ∧ (v1).toInt < (246960 : Nat)) <|
    some ((r20.1 140 v1.toNatClampNeg, r20))
def g_X12_least_104 (s : ryS) (v1 : Int32) : Option (Int32 × ryS) :=
    let x11 := (s.1 102 71) - 1
    g_X12_least_111 (g_X12_least_180) rhFU s v1 x11
def g_X12_least_70 (s : ryS) (v1 : Int32) : Option (Int32 × ryS) :=
    if v1 < 0 then
      (some (((-1), s)))
    else
      g_X12_least_78 (g_X12_least_104) rhFU s v1 0
def g_X12_least (s : ryS) : Option (Int32 × ryS) :=
    let s1 := rysi s 102 66 0
    (g_X12_isMany s1).bind fun r2 =>
    if r2 = 0 then
      ((g_X12_settle s1).bind fun r3 =>
      let s4 := rysi r3 102 61 0
      g_X12_least_28 (g_X12_least_70) rhFU s4 ((-1)) 0)
    else
      some (((-2), s1))
set_option maxHeartbeats 400000 in
set_option maxRecDepth 100000 in
theorem e_X12_least_64 {Γ : rhG} {R : Nat → Nat → Nat} (hS : ShS Γ R) {f28 : rhM → Nat → Int32 → Int32 → Option (Int32 × rhM)} {k28 : ryS → Int32 → Int32 → Option (Int32 × ryS)} (hk28 : ∀ (s : ryS) (v1 : Int32) (v2 : Int32), f28 (ryM s R) 102 v1 v2 = Option.map (fun q => (q.1, ryM q.2 R)) (k28 s v1 v2)) : ∀ (s : ryS) (v1 : Int32) (v2 : Int32), f_X12_least_64 f28 Γ (ryM s R) 102 v1 v2 = Option.map (fun q => (q.1, ryM q.2 R)) (g_X12_least_64 k28 s v1 v2) := by
  intros
  simp only [f_X12_least_64, g_X12_least_64, rhck, ryM_1, ryM_2, ryM_3, ry_si, ry_sl, if_true, ry_ck, Option.map_some, Option.map_none, ry_ite, ry_bm, ry_mb, Nat.add_assoc, Nat.reduceAdd, Option.some_bind, Option.bind_some, hk28]
set_option maxHeartbeats 400000 in
set_option maxRecDepth 100000 in
theorem e_X12_least_28 {Γ : rhG} {R : Nat → Nat → Nat} (hS : ShS Γ R) {f70 : rhM → Nat → Int32 → Option (Int32 × rhM)} {k70 : ryS → Int32 → Option (Int32 × ryS)} (hk70 : ∀ (s : ryS) (v1 : Int32), f70 (ryM s R) 102 v1 = Option.map (fun q => (q.1, ryM q.2 R)) (k70 s v1)) : ∀ (n : Nat) (s : ryS) (v1 : Int32) (v2 : Int32), f_X12_least_28 f70 Γ n (ryM s R) 102 v1 v2 = Option.map (fun q => (q.1, ryM q.2 R)) (g_X12_least_28 k70 n s v1 v2) := by
  intro n
  induction n with
  | zero => intros; simp only [f_X12_least_28, g_X12_least_28, Option.map_none]
  | succ n ih =>
    intros
    simp only [f_X12_least_28, g_X12_least_28, rhck, ryM_1, ryM_2, ryM_3, ry_si, ry_sl, if_true, ry_ck, Option.map_some, Option.map_none, ry_ite, ry_bm, ry_mb, Nat.add_assoc, Nat.reduceAdd, Option.some_bind, Option.bind_some, ssk_102 hS, ssk_148 hS, ssl_148 hS, ssr_102_69 hS, e_X12_layState hS, e_X12_isEnd hS, hk70, e_X12_least_64 hS ih, ih]
set_option maxHeartbeats 400000 in
set_option maxRecDepth 100000 in
theorem e_X12_least_78 {Γ : rhG} {R : Nat → Nat → Nat} (hS : ShS Γ R) {f104 : rhM → Nat → Int32 → Option (Int32 × rhM)} {k104 : ryS → Int32 → Option (Int32 × ryS)} (hk104 : ∀ (s : ryS) (v1 : Int32), f104 (ryM s R) 102 v1 = Option.map (fun q => (q.1, ryM q.2 R)) (k104 s v1)) : ∀ (n : Nat) (s : ryS) (v1 : Int32) (v2 : Int32), f_X12_least_78 f104 Γ n (ryM s R) 102 v1 v2 = Option.map (fun q => (q.1, ryM q.2 R)) (g_X12_least_78 k104 n s v1 v2) := by
  intro n
  induction n with
  | zero => intros; simp only [f_X12_least_78, g_X12_least_78, Option.map_none]
  | succ n ih =>
    intros
    simp only [f_X12_least_78, g_X12_least_78, rhck, ryM_1, ryM_2, ryM_3, ry_si, ry_sl, if_true, ry_ck, Option.map_some, Option.map_none, ry_ite, ry_bm, ry_mb, Nat.add_assoc, Nat.reduceAdd, Option.some_bind, Option.bind_some, ssk_102 hS, ssk_142 hS, ssk_148 hS, ssl_142 hS, ssl_148 hS, ssr_102_59 hS, ssr_102_69 hS, hk104, ih]
set_option maxHeartbeats 400000 in
set_option maxRecDepth 100000 in
theorem e_X12_least_160 {Γ : rhG} {R : Nat → Nat → Nat} (hS : ShS Γ R) {f168 : rhM → Nat → Int32 → Int32 → Nat → Int32 → Option (Int32 × rhM)} {k168 : ryS → Int32 → Int32 → Int32 → Option (Int32 × ryS)} {f173 : rhM → Nat → Int32 → Int32 → Nat → Int32 → Int32 → Option (Int32 × rhM)} {k173 : ryS → Int32 → Int32 → Int32 → Int32 → Option (Int32 × ryS)} (hk168 : ∀ (s : ryS) (v1 : Int32) (v2 : Int32) (w1 : Int32), f168 (ryM s R) 102 v1 v2 142 w1 = Option.map (fun q => (q.1, ryM q.2 R)) (k168 s v1 v2 w1)) (hk173 : ∀ (s : ryS) (v1 : Int32) (v2 : Int32) (w1 : Int32) (w2 : Int32), f173 (ryM s R) 102 v1 v2 142 w1 w2 = Option.map (fun q => (q.1, ryM q.2 R)) (k173 s v1 v2 w1 w2)) : ∀ (s : ryS) (v1 : Int32) (v2 : Int32) (v3 : Int32) (w1 : Int32), f_X12_least_160 f168 f173 Γ (ryM s R) 102 v1 v2 v3 142 w1 = Option.map (fun q => (q.1, ryM q.2 R)) (g_X12_least_160 k168 k173 s v1 v2 v3 w1) := by
  intros
  simp only [f_X12_least_160, g_X12_least_160, rhck, ryM_1, ryM_2, ryM_3, ry_si, ry_sl, if_true, ry_ck, Option.map_some, Option.map_none, ry_ite, ry_bm, ry_mb, Nat.add_assoc, Nat.reduceAdd, Option.some_bind, Option.bind_some, ssk_102 hS, e_X12_nextTight hS, hk168, hk173]
set_option maxHeartbeats 400000 in
set_option maxRecDepth 100000 in
theorem e_X12_least_168 {Γ : rhG} {R : Nat → Nat → Nat} (hS : ShS Γ R) {f173 : rhM → Nat → Int32 → Int32 → Nat → Int32 → Int32 → Option (Int32 × rhM)} {k173 : ryS → Int32 → Int32 → Int32 → Int32 → Option (Int32 × ryS)} (hk173 : ∀ (s : ryS) (v1 : Int32) (v2 : Int32) (w1 : Int32) (w2 : Int32), f173 (ryM s R) 102 v1 v2 142 w1 w2 = Option.map (fun q => (q.1, ryM q.2 R)) (k173 s v1 v2 w1 w2)) : ∀ (s : ryS) (v1 : Int32) (v2 : Int32) (w1 : Int32), f_X12_least_168 f173 Γ (ryM s R) 102 v1 v2 142 w1 = Option.map (fun q => (q.1, ryM q.2 R)) (g_X12_least_168 k173 s v1 v2 w1) := by
  intros
  simp only [f_X12_least_168, g_X12_least_168, rhck, ryM_1, ryM_2, ryM_3, ry_si, ry_sl, if_true, ry_ck, Option.map_some, Option.map_none, ry_ite, ry_bm, ry_mb, Nat.add_assoc, Nat.reduceAdd, Option.some_bind, Option.bind_some, hk173]
set_option maxHeartbeats 400000 in
set_option maxRecDepth 100000 in
theorem e_X12_least_173 {Γ : rhG} {R : Nat → Nat → Nat} (hS : ShS Γ R) {f174 : rhM → Nat → Int32 → Int32 → Option (Int32 × rhM)} {k174 : ryS → Int32 → Int32 → Option (Int32 × ryS)} (hk174 : ∀ (s : ryS) (v1 : Int32) (v2 : Int32), f174 (ryM s R) 102 v1 v2 = Option.map (fun q => (q.1, ryM q.2 R)) (k174 s v1 v2)) : ∀ (s : ryS) (v1 : Int32) (v2 : Int32) (w1 : Int32) (w2 : Int32), f_X12_least_173 f174 Γ (ryM s R) 102 v1 v2 142 w1 w2 = Option.map (fun q => (q.1, ryM q.2 R)) (g_X12_least_173 k174 s v1 v2 w1 w2) := by
  intros
  simp only [f_X12_least_173, g_X12_least_173, rhck, ryM_1, ryM_2, ryM_3, ry_si, ry_sl, if_true, ry_ck, Option.map_some, Option.map_none, ry_ite, ry_bm, ry_mb, Nat.add_assoc, Nat.reduceAdd, Option.some_bind, Option.bind_some, ssk_142 hS, ssl_142 hS, hk174]
set_option maxHeartbeats 400000 in
set_option maxRecDepth 100000 in
theorem e_X12_least_174 {Γ : rhG} {R : Nat → Nat → Nat} (hS : ShS Γ R) {f111 : rhM → Nat → Int32 → Int32 → Option (Int32 × rhM)} {k111 : ryS → Int32 → Int32 → Option (Int32 × ryS)} (hk111 : ∀ (s : ryS) (v1 : Int32) (v2 : Int32), f111 (ryM s R) 102 v1 v2 = Option.map (fun q => (q.1, ryM q.2 R)) (k111 s v1 v2)) : ∀ (s : ryS) (v1 : Int32) (v2 : Int32), f_X12_least_174 f111 Γ (ryM s R) 102 v1 v2 = Option.map (fun q => (q.1, ryM q.2 R)) (g_X12_least_174 k111 s v1 v2) := by
  intros
  simp only [f_X12_least_174, g_X12_least_174, rhck, ryM_1, ryM_2, ryM_3, ry_si, ry_sl, if_true, ry_ck, Option.map_some, Option.map_none, ry_ite, ry_bm, ry_mb, Nat.add_assoc, Nat.reduceAdd, Option.some_bind, Option.bind_some, hk111]
set_option maxHeartbeats 400000 in
set_option maxRecDepth 100000 in
theorem e_X12_least_111 {Γ : rhG} {R : Nat → Nat → Nat} (hS : ShS Γ R) {f180 : rhM → Nat → Int32 → Option (Int32 × rhM)} {k180 : ryS → Int32 → Option (Int32 × ryS)} (hk180 : ∀ (s : ryS) (v1 : Int32), f180 (ryM s R) 102 v1 = Option.map (fun q => (q.1, ryM q.2 R)) (k180 s v1)) : ∀ (n : Nat) (s : ryS) (v1 : Int32) (v2 : Int32), f_X12_least_111 f180 Γ n (ryM s R) 102 v1 v2 = Option.map (fun q => (q.1, ryM q.2 R)) (g_X12_least_111 k180 n s v1 v2) := by
  intro n
  induction n with
  | zero => intros; simp only [f_X12_least_111, g_X12_least_111, Option.map_none]
  | succ n ih =>
    intros
    simp only [f_X12_least_111, g_X12_least_111, rhck, ryM_1, ryM_2, ryM_3, ry_si, ry_sl, if_true, ry_ck, Option.map_some, Option.map_none, ry_ite, ry_bm, ry_mb, Nat.add_assoc, Nat.reduceAdd, Option.some_bind, Option.bind_some, ssk_102 hS, ssk_148 hS, ssl_148 hS, ssr_102_59 hS, ssr_102_69 hS, e_X12_isBefore hS, e_X12_layState hS, e_X12_isBefore hS, e_X12_isEnd hS, hk180, e_X12_least_160 hS (e_X12_least_168 hS (e_X12_least_173 hS (e_X12_least_174 hS ih))) (e_X12_least_173 hS (e_X12_least_174 hS ih)), e_X12_least_168 hS (e_X12_least_173 hS (e_X12_least_174 hS ih)), e_X12_least_173 hS (e_X12_least_174 hS ih), e_X12_least_174 hS ih, ih]
set_option maxHeartbeats 400000 in
set_option maxRecDepth 100000 in
theorem e_X12_least_180 {Γ : rhG} {R : Nat → Nat → Nat} (hS : ShS Γ R) : ∀ (s : ryS) (v1 : Int32), f_X12_least_180 Γ (ryM s R) 102 v1 = Option.map (fun q => (q.1, ryM q.2 R)) (g_X12_least_180 s v1) := by
  intros
  simp only [f_X12_least_180, g_X12_least_180, rhck, ryM_1, ryM_2, ryM_3, ry_si, ry_sl, if_true, ry_ck, Option.map_some, Option.map_none, ry_ite, ry_bm, ry_mb, Nat.add_assoc, Nat.reduceAdd, Option.some_bind, Option.bind_some, ssk_102 hS, ssk_140 hS, ssl_140 hS, ssr_102_57 hS, e_X12_layLightest hS]
set_option maxHeartbeats 400000 in
set_option maxRecDepth 100000 in
theorem e_X12_least_104 {Γ : rhG} {R : Nat → Nat → Nat} (hS : ShS Γ R) : ∀ (s : ryS) (v1 : Int32), f_X12_least_104 Γ (ryM s R) 102 v1 = Option.map (fun q => (q.1, ryM q.2 R)) (g_X12_least_104 s v1) := by
  intros
  simp only [f_X12_least_104, g_X12_least_104, rhck, ryM_1, ryM_2, ryM_3, ry_si, ry_sl, if_true, ry_ck, Option.map_some, Option.map_none, ry_ite, ry_bm, ry_mb, Nat.add_assoc, Nat.reduceAdd, Option.some_bind, Option.bind_some, ssk_102 hS, e_X12_least_111 hS (e_X12_least_180 hS), e_X12_least_180 hS]
set_option maxHeartbeats 400000 in
set_option maxRecDepth 100000 in
theorem e_X12_least_70 {Γ : rhG} {R : Nat → Nat → Nat} (hS : ShS Γ R) : ∀ (s : ryS) (v1 : Int32), f_X12_least_70 Γ (ryM s R) 102 v1 = Option.map (fun q => (q.1, ryM q.2 R)) (g_X12_least_70 s v1) := by
  intros
  simp only [f_X12_least_70, g_X12_least_70, rhck, ryM_1, ryM_2, ryM_3, ry_si, ry_sl, if_true, ry_ck, Option.map_some, Option.map_none, ry_ite, ry_bm, ry_mb, Nat.add_assoc, Nat.reduceAdd, Option.some_bind, Option.bind_some, e_X12_least_78 hS (e_X12_least_104 hS), e_X12_least_104 hS]
set_option maxHeartbeats 400000 in
set_option maxRecDepth 100000 in
theorem e_X12_least {Γ : rhG} {R : Nat → Nat → Nat} (hS : ShS Γ R) : ∀ (s : ryS), f_X12_least Γ (ryM s R) 102 = Option.map (fun q => (q.1, ryM q.2 R)) (g_X12_least s) := by
  intros
  simp only [f_X12_least, g_X12_least, rhck, ryM_1, ryM_2, ryM_3, ry_si, ry_sl, if_true, ry_ck, Option.map_some, Option.map_none, ry_ite, ry_bm, ry_mb, Nat.add_assoc, Nat.reduceAdd, Option.some_bind, Option.bind_some, ssk_102 hS, e_X12_isMany hS, e_X12_settle hS, e_X12_least_28 hS (e_X12_least_70 hS), e_X12_least_70 hS]
