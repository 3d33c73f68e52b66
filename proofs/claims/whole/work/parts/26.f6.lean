def f_X12_fault (Γ : rhG) (M : rhM) (v0 : Nat) (v1 : Int32) : Option (Int32) :=
  if v1 = 0 then
    (rhck (Γ.2.2.1 v0 = 13) <|
    some (M.1 v0 4))
  else
    if v1 = 1 then
      (rhck (Γ.2.2.1 v0 = 13) <|
      some (M.1 v0 5))
    else
      some ((-1))
set_option maxHeartbeats 4000000 in
set_option maxRecDepth 100000 in
theorem b_X12_fault {E : rhE} {Γ : rhG} {M : rhM} : ∀ (v0 : Nat) (v1 : Int32), rhF E 1 2 yX12_fault cX12_fault (some .int) Γ (rhe0I Γ M) (f_X12_fault Γ M v0 v1) 0 [(0, rhR v0), (1, rhI v1)] [] Γ M := by
  intro v0 v1
  rw [f_X12_fault]
  refine rhF.iload_n (pc := 0) dX12_fault_0 1 rfl ?_
  refine rhF.if_ne (pc := 1) 11 dX12_fault_1 (by decide) (fun h1 => ?_) (fun h1 => ?_)
  · refine rhF.aload_n (pc := 4) dX12_fault_4 0 rfl ?_
    refine rhF.ck (fun h2 => ?_)
    refine rhF.get (pc := 5) (rhI _) dX12_fault_5 fl_X12_217 h2 rfl ?_
    refine rhF.goto (pc := 8) 24 dX12_fault_8 (by decide) ?_
    exact rhF.zret (pc := 24) dX12_fault_24 rfl rfl rfl
  · refine rhF.iload_n (pc := 11) dX12_fault_11 1 rfl ?_
    refine rhF.iconst (pc := 12) (v := 1) dX12_fault_12 (by decide) ?_
    refine rhF.icmp_ne (pc := 13) 23 dX12_fault_13 (by decide) (fun h3 => ?_) (fun h3 => ?_)
    · refine rhF.aload_n (pc := 16) dX12_fault_16 0 rfl ?_
      refine rhF.ck (fun h4 => ?_)
      refine rhF.get (pc := 17) (rhI _) dX12_fault_17 fl_X12_16 h4 rfl ?_
      refine rhF.goto (pc := 20) 24 dX12_fault_20 (by decide) ?_
      exact rhF.zret (pc := 24) dX12_fault_24 rfl rfl rfl
    · refine rhF.iconst (pc := 23) (v := (-1)) dX12_fault_23 (by decide) ?_
      exact rhF.zret (pc := 24) dX12_fault_24 rfl rfl rfl
theorem c_X12_fault (E : rhE) (Γ : rhG) (M : rhM) (v0 : Nat) (v1 : Int32) : ∀ a, f_X12_fault Γ M v0 v1 = some a → rhC E 1 yX12_fault cX12_fault 2 (some .int) [rhR v0, rhI v1] Γ M ((rhe0I Γ M) a) := rhF.met (by decide +kernel) (Nat.le_of_ble_eq_true rfl) (b_X12_fault v0 v1)
def f_X12_feed_71 (k18 : rhM → Nat → Int32 → Int32 → Int32 → Int32 → Int32 → Int32 → Option (Int32 × rhM)) (Γ : rhG) (M : rhM) (v0 : Nat) (v1 : Int32) (v2 : Int32) (v3 : Int32) (v4 : Int32) (v5 : Int32) (v6 : Int32) (s0 : Int32) : Option (Int32 × rhM) :=
  rhck (Γ.2.2.1 v0 = 13) <|
  rhck (Γ.2.2.1 (M.2.2 v0 0) = 14) <|
  rhck (0 ≤ ((M.1 v0 2) + v6).toInt ∧ ((M.1 v0 2) + v6).toInt < (Γ.2.2.2 (M.2.2 v0 0) : Nat)) <|
  let M8 := rhsi M (M.2.2 v0 0) ((M.1 v0 2) + v6 : Int32).toNatClampNeg (vp_nar .byte ((s0 >>> ((24 - (8 * (v6 &&& 3))) &&& 31)).toInt8.toInt32))
  let x9 : Int32 := v6 + 1
  k18 M8 v0 v1 v2 v3 v4 v5 x9
def f_X12_feed_18 (k105 : rhM → Nat → Option (Int32 × rhM)) (Γ : rhG) : Nat → rhM → Nat → Int32 → Int32 → Int32 → Int32 → Int32 → Int32 → Option (Int32 × rhM)
  | 0, _, _, _, _, _, _, _, _ => none
  | n + 1, M, v0, v1, v2, v3, v4, v5, v6 =>
    if v6 < 20 then
      (if v6 < 4 then
        (f_X12_feed_71 (f_X12_feed_18 k105 Γ n) Γ M v0 v1 v2 v3 v4 v5 v6 v1)
      else
        if v6 < 8 then
          (f_X12_feed_71 (f_X12_feed_18 k105 Γ n) Γ M v0 v1 v2 v3 v4 v5 v6 v2)
        else
          if v6 < 12 then
            (f_X12_feed_71 (f_X12_feed_18 k105 Γ n) Γ M v0 v1 v2 v3 v4 v5 v6 v3)
          else
            if v6 < 16 then
              (f_X12_feed_71 (f_X12_feed_18 k105 Γ n) Γ M v0 v1 v2 v3 v4 v5 v6 v4)
            else
              f_X12_feed_71 (f_X12_feed_18 k105 Γ n) Γ M v0 v1 v2 v3 v4 v5 v6 v5)
    else
      k105 M v0
def f_X12_feed_105 (Γ : rhG) (M : rhM) (v0 : Nat) : Option (Int32 × rhM) :=
  rhck (Γ.2.2.1 v0 = 13) <|
  let M14 := rhsi M v0 2 ((M.1 v0 2) + 20)
  some ((M14.1 v0 2, M14))
def f_X12_feed (Γ : rhG) (M : rhM) (v0 : Nat) (v1 : Int32) (v2 : Int32) (v3 : Int32) (v4 : Int32) (v5 : Int32) : Option (Int32 × rhM) :=
  rhck (Γ.2.2.1 v0 = 13) <|
  if 1600 < ((M.1 v0 2) + 20) then
    (some (((-1), M)))
  else
    f_X12_feed_18 (f_X12_feed_105 Γ) Γ rhFU M v0 v1 v2 v3 v4 v5 0
set_option maxHeartbeats 4000000 in
set_option maxRecDepth 100000 in
theorem b_X12_feed_71 {E : rhE} {Γ : rhG} {k18 : rhM → Nat → Int32 → Int32 → Int32 → Int32 → Int32 → Int32 → Option (Int32 × rhM)} (hk18 : ∀ (M : rhM) (v0 : Nat) (v1 : Int32) (v2 : Int32) (v3 : Int32) (v4 : Int32) (v5 : Int32) (v6 : Int32), rhF E 1 8 yX12_feed cX12_feed (some .int) Γ (rhe1I Γ) (k18 M v0 v1 v2 v3 v4 v5 v6) 18 [(0, rhR v0), (1, rhI v1), (2, rhI v2), (3, rhI v3), (4, rhI v4), (5, rhI v5), (6, rhI v6)] [] Γ M) : ∀ (M : rhM) (v0 : Nat) (v1 : Int32) (v2 : Int32) (v3 : Int32) (v4 : Int32) (v5 : Int32) (v6 : Int32) (s0 : Int32), rhF E 1 8 yX12_feed cX12_feed (some .int) Γ (rhe1I Γ) (f_X12_feed_71 k18 Γ M v0 v1 v2 v3 v4 v5 v6 s0) 71 [(0, rhR v0), (1, rhI v1), (2, rhI v2), (3, rhI v3), (4, rhI v4), (5, rhI v5), (6, rhI v6)] [rhI s0] Γ M := by
  intro M v0 v1 v2 v3 v4 v5 v6 s0
  rw [f_X12_feed_71]
  refine rhF.istore (pc := 71) (L' := [(7, rhI _), (0, rhR _), (1, rhI _), (2, rhI _), (3, rhI _), (4, rhI _), (5, rhI _), (6, rhI _)]) dX12_feed_71 (by decide) rfl ?_
  refine rhF.aload_n (pc := 73) dX12_feed_73 1 rfl ?_
  refine rhF.ck (fun h5 => ?_)
  refine rhF.get (pc := 74) (rhR _) dX12_feed_74 fl_X12_7 h5 rfl ?_
  refine rhF.aload_n (pc := 77) dX12_feed_77 1 rfl ?_
  refine rhF.get (pc := 78) (rhI _) dX12_feed_78 fl_X12_324 h5 rfl ?_
  refine rhF.iload (pc := 81) dX12_feed_81 7 rfl ?_
  refine rhF.iadd (pc := 83) dX12_feed_83 ?_
  refine rhF.iload (pc := 84) dX12_feed_84 0 rfl ?_
  refine rhF.bipush (pc := 86) (v := 24) dX12_feed_86 (by decide) ?_
  refine rhF.bipush (pc := 88) (v := 8) dX12_feed_88 (by decide) ?_
  refine rhF.iload (pc := 90) dX12_feed_90 7 rfl ?_
  refine rhF.iconst (pc := 92) (v := 3) dX12_feed_92 (by decide) ?_
  refine rhF.iand (pc := 93) dX12_feed_93 ?_
  refine rhF.imul (pc := 94) dX12_feed_94 ?_
  refine rhF.isub (pc := 95) dX12_feed_95 ?_
  refine rhF.ishr (pc := 96) dX12_feed_96 ?_
  refine rhF.i2b (pc := 97) dX12_feed_97 ?_
  refine rhF.ck (fun h6 => ?_)
  refine rhF.ck (fun h7 => ?_)
  refine rhF.bast (pc := 98) dX12_feed_98 h6 h7 ?_
  refine rhF.iinc (pc := 99) (L' := [(6, rhI _), (7, rhI _), (0, rhR _), (1, rhI _), (2, rhI _), (3, rhI _), (4, rhI _), (5, rhI _)]) dX12_feed_99 7 rfl rfl (by decide) rfl ?_
  refine rhF.goto (pc := 102) 18 dX12_feed_102 (by decide) ?_
  refine rhF.sub [2, 3, 4, 5, 6, 7, 0] rfl ?_
  exact hk18 _ _ _ _ _ _ _ _
set_option maxHeartbeats 4000000 in
set_option maxRecDepth 100000 in
theorem b_X12_feed_18 {E : rhE} {Γ : rhG} {k105 : rhM → Nat → Option (Int32 × rhM)} (hk105 : ∀ (M : rhM) (v0 : Nat), rhF E 1 8 yX12_feed cX12_feed (some .int) Γ (rhe1I Γ) (k105 M v0) 105 [(0, rhR v0)] [] Γ M) : ∀ (n : Nat) (M : rhM) (v0 : Nat) (v1 : Int32) (v2 : Int32) (v3 : Int32) (v4 : Int32) (v5 : Int32) (v6 : Int32), rhF E 1 8 yX12_feed cX12_feed (some .int) Γ (rhe1I Γ) (f_X12_feed_18 k105 Γ n M v0 v1 v2 v3 v4 v5 v6) 18 [(0, rhR v0), (1, rhI v1), (2, rhI v2), (3, rhI v3), (4, rhI v4), (5, rhI v5), (6, rhI v6)] [] Γ M := by
  intro n
  induction n with
  | zero => intro M v0 v1 v2 v3 v4 v5 v6; rw [f_X12_feed_18]; exact rhF.nope
  | succ n ih =>
    intro M v0 v1 v2 v3 v4 v5 v6
    rw [f_X12_feed_18]
    refine rhF.iload (pc := 18) dX12_feed_18 6 rfl ?_
    refine rhF.bipush (pc := 20) (v := 20) dX12_feed_20 (by decide) ?_
    refine rhF.icmp_ge (pc := 22) 105 dX12_feed_22 (by decide) (fun h3 => ?_) (fun h3 => ?_)
    · refine rhF.iload (pc := 25) dX12_feed_25 6 rfl ?_
      refine rhF.iconst (pc := 27) (v := 4) dX12_feed_27 (by decide) ?_
      refine rhF.icmp_ge (pc := 28) 35 dX12_feed_28 (by decide) (fun h4 => ?_) (fun h4 => ?_)
      · refine rhF.iload_n (pc := 31) dX12_feed_31 1 rfl ?_
        refine rhF.goto (pc := 32) 71 dX12_feed_32 (by decide) ?_
        exact (b_X12_feed_71 ih) _ _ _ _ _ _ _ _ _
      · refine rhF.iload (pc := 35) dX12_feed_35 6 rfl ?_
        refine rhF.bipush (pc := 37) (v := 8) dX12_feed_37 (by decide) ?_
        refine rhF.icmp_ge (pc := 39) 46 dX12_feed_39 (by decide) (fun h10 => ?_) (fun h10 => ?_)
        · refine rhF.iload_n (pc := 42) dX12_feed_42 2 rfl ?_
          refine rhF.goto (pc := 43) 71 dX12_feed_43 (by decide) ?_
          exact (b_X12_feed_71 ih) _ _ _ _ _ _ _ _ _
        · refine rhF.iload (pc := 46) dX12_feed_46 6 rfl ?_
          refine rhF.bipush (pc := 48) (v := 12) dX12_feed_48 (by decide) ?_
          refine rhF.icmp_ge (pc := 50) 57 dX12_feed_50 (by decide) (fun h11 => ?_) (fun h11 => ?_)
          · refine rhF.iload_n (pc := 53) dX12_feed_53 3 rfl ?_
            refine rhF.goto (pc := 54) 71 dX12_feed_54 (by decide) ?_
            exact (b_X12_feed_71 ih) _ _ _ _ _ _ _ _ _
          · refine rhF.iload (pc := 57) dX12_feed_57 6 rfl ?_
            refine rhF.bipush (pc := 59) (v := 16) dX12_feed_59 (by decide) ?_
            refine rhF.icmp_ge (pc := 61) 69 dX12_feed_61 (by decide) (fun h12 => ?_) (fun h12 => ?_)
            · refine rhF.iload (pc := 64) dX12_feed_64 4 rfl ?_
              refine rhF.goto (pc := 66) 71 dX12_feed_66 (by decide) ?_
              exact (b_X12_feed_71 ih) _ _ _ _ _ _ _ _ _
            · refine rhF.iload (pc := 69) dX12_feed_69 5 rfl ?_
              exact (b_X12_feed_71 ih) _ _ _ _ _ _ _ _ _
    · refine rhF.sub [0] rfl ?_
      exact hk105 _ _
set_option maxHeartbeats 4000000 in
set_option maxRecDepth 100000 in
theorem b_X12_feed_105 {E : rhE} {Γ : rhG} : ∀ (M : rhM) (v0 : Nat), rhF E 1 8 yX12_feed cX12_feed (some .int) Γ (rhe1I Γ) (f_X12_feed_105 Γ M v0) 105 [(0, rhR v0)] [] Γ M := by
  intro M v0
  rw [f_X12_feed_105]
  refine rhF.aload_n (pc := 105) dX12_feed_105 0 rfl ?_
  refine rhF.dupr (pc := 106) dX12_feed_106 ?_
  refine rhF.ck (fun h13 => ?_)
  refine rhF.get (pc := 107) (rhI _) dX12_feed_107 fl_X12_324 h13 rfl ?_
  refine rhF.bipush (pc := 110) (v := 20) dX12_feed_110 (by decide) ?_
  refine rhF.iadd (pc := 112) dX12_feed_112 ?_
  refine rhF.puti (pc := 113) dX12_feed_113 fl_X12_324 h13 (fun q hq => by cases hq; exact Or.inl rfl) ⟨rfl, rfl⟩ (fun _ => rfl) ?_
  refine rhF.aload_n (pc := 116) dX12_feed_116 0 rfl ?_
  refine rhF.get (pc := 117) (rhI _) dX12_feed_117 fl_X12_324 h13 rfl ?_
  exact rhF.zret (pc := 120) dX12_feed_120 rfl rfl rfl
set_option maxHeartbeats 4000000 in
set_option maxRecDepth 100000 in
theorem b_X12_feed {E : rhE} {Γ : rhG} : ∀ (M : rhM) (v0 : Nat) (v1 : Int32) (v2 : Int32) (v3 : Int32) (v4 : Int32) (v5 : Int32), rhF E 1 8 yX12_feed cX12_feed (some .int) Γ (rhe1I Γ) (f_X12_feed Γ M v0 v1 v2 v3 v4 v5) 0 [(0, rhR v0), (1, rhI v1), (2, rhI v2), (3, rhI v3), (4, rhI v4), (5, rhI v5)] [] Γ M := by
  intro M v0 v1 v2 v3 v4 v5
  rw [f_X12_feed]
  refine rhF.aload_n (pc := 0) dX12_feed_0 0 rfl ?_
  refine rhF.ck (fun h1 => ?_)
  refine rhF.get (pc := 1) (rhI _) dX12_feed_1 fl_X12_324 h1 rfl ?_
  refine rhF.bipush (pc := 4) (v := 20) dX12_feed_4 (by decide) ?_
  refine rhF.iadd (pc := 6) dX12_feed_6 ?_
  refine rhF.sipush (pc := 7) (v := 1600) dX12_feed_7 (by decide) ?_
  refine rhF.icmp_le (pc := 10) 15 dX12_feed_10 (by decide) (fun h2 => ?_) (fun h2 => ?_)
  · refine rhF.iconst (pc := 13) (v := (-1)) dX12_feed_13 (by decide) ?_
    exact rhF.zret (pc := 14) dX12_feed_14 rfl rfl rfl
  · refine rhF.iconst (pc := 15) (v := 0) dX12_feed_15 (by decide) ?_
    refine rhF.istore (pc := 16) (L' := [(6, rhI _), (0, rhR _), (1, rhI _), (2, rhI _), (3, rhI _), (4, rhI _), (5, rhI _)]) dX12_feed_16 (by decide) rfl ?_
    refine rhF.sub [1, 2, 3, 4, 5, 6, 0] rfl ?_
    exact (b_X12_feed_18 (b_X12_feed_105) rhFU) _ _ _ _ _ _ _ _
theorem c_X12_feed (E : rhE) (Γ : rhG) (M : rhM) (v0 : Nat) (v1 : Int32) (v2 : Int32) (v3 : Int32) (v4 : Int32) (v5 : Int32) : ∀ a, f_X12_feed Γ M v0 v1 v2 v3 v4 v5 = some a → rhC E 1 yX12_feed cX12_feed 8 (some .int) [rhR v0, rhI v1, rhI v2, rhI v3, rhI v4, rhI v5] Γ M ((rhe1I Γ) a) := rhF.met (by decide +kernel) (Nat.le_of_ble_eq_true rfl) (b_X12_feed M v0 v1 v2 v3 v4 v5)
def f_X12_isMany (Γ : rhG) (M : rhM) (v0 : Nat) : Option (Int32) :=
  rhck (Γ.2.2.1 v0 = 13) <|
  (f_X12_houseMany Γ M v0).bind fun r2 =>
  if 6 < r2 then
    (some 1)
  else
    (f_X12_railMany Γ M v0).bind fun r4 =>
    if 4 < r4 then
      (some 1)
    else
      some 0
set_option maxHeartbeats 4000000 in
set_option maxRecDepth 100000 in
theorem b_X12_isMany {E : rhE} {Γ : rhG} {M : rhM} : ∀ (v0 : Nat), rhF E 5 1 yX12_isMany cX12_isMany (some .boolean) Γ (rhe0I Γ M) (f_X12_isMany Γ M v0) 0 [(0, rhR v0)] [] Γ M := by
  intro v0
  rw [f_X12_isMany]
  refine rhF.aload_n (pc := 0) dX12_isMany_0 0 rfl ?_
  refine rhF.ck (fun h1 => ?_)
  refine rhF.callV (pc := 1) (ci := 12) (embc := rhe0I _ _) [] dX12_isMany_1 ml_X12_419 mv_X12_houseMany ⟨_, rfl, rfl⟩ h1 (c_X12_houseMany _ _ _ _) (by decide) (by decide) rfl (Nat.le_of_ble_eq_true rfl) (fun r2 _ => ?_)
  refine rhF.bipush (pc := 4) (v := 6) dX12_isMany_4 (by decide) ?_
  refine rhF.icmp_gt (pc := 6) 17 dX12_isMany_6 (by decide) (fun h3 => ?_) (fun h3 => ?_)
  · refine rhF.iconst (pc := 17) (v := 1) dX12_isMany_17 (by decide) ?_
    refine rhF.goto (pc := 18) 22 dX12_isMany_18 (by decide) ?_
    exact rhF.zret (pc := 22) dX12_isMany_22 rfl rfl rfl
  · refine rhF.aload_n (pc := 9) dX12_isMany_9 0 rfl ?_
    refine rhF.callV (pc := 10) (ci := 12) (embc := rhe0I _ _) [] dX12_isMany_10 ml_X12_412 mv_X12_railMany ⟨_, rfl, rfl⟩ h1 (c_X12_railMany _ _ _ _) (by decide) (by decide) rfl (Nat.le_of_ble_eq_true rfl) (fun r4 _ => ?_)
    refine rhF.iconst (pc := 13) (v := 4) dX12_isMany_13 (by decide) ?_
    refine rhF.icmp_le (pc := 14) 21 dX12_isMany_14 (by decide) (fun h5 => ?_) (fun h5 => ?_)
    · refine rhF.iconst (pc := 17) (v := 1) dX12_isMany_17 (by decide) ?_
      refine rhF.goto (pc := 18) 22 dX12_isMany_18 (by decide) ?_
      exact rhF.zret (pc := 22) dX12_isMany_22 rfl rfl rfl
    · refine rhF.iconst (pc := 21) (v := 0) dX12_isMany_21 (by decide) ?_
      exact rhF.zret (pc := 22) dX12_isMany_22 rfl rfl rfl
theorem c_X12_isMany (E : rhE) (Γ : rhG) (M : rhM) (v0 : Nat) : ∀ a, f_X12_isMany Γ M v0 = some a → rhC E 5 yX12_isMany cX12_isMany 1 (some .boolean) [rhR v0] Γ M ((rhe0I Γ M) a) := rhF.met (by decide +kernel) (Nat.le_of_ble_eq_true rfl) (b_X12_isMany v0)
def f_X12_layWay_17 (Γ : rhG) : Nat → rhM → Nat → Int32 → Int32 → Option (rhM)
  | 0, _, _, _, _ => none
  | n + 1, M, v0, v2, v3 =>
    rhck (Γ.2.2.1 v0 = 13) <|
    rhck (Γ.2.2.1 (M.2.2 v0 55) = 15) <|
    rhck (0 ≤ (v3).toInt ∧ (v3).toInt < (Γ.2.2.2 (M.2.2 v0 55) : Nat)) <|
    if (M.1 (M.2.2 v0 55) v3.toNatClampNeg) < 0 then
      (some M)
    else
      let x10 : Int32 := v2 + (-1)
      rhck (Γ.2.2.1 (M.2.2 v0 54) = 15) <|
      rhck (0 ≤ (v3).toInt ∧ (v3).toInt < (Γ.2.2.2 (M.2.2 v0 54) : Nat)) <|
      rhck (Γ.2.2.1 (M.2.2 v0 65) = 15) <|
      rhck (0 ≤ (x10).toInt ∧ (x10).toInt < (Γ.2.2.2 (M.2.2 v0 65) : Nat)) <|
      let M15 := rhsi M (M.2.2 v0 65) (x10 : Int32).toNatClampNeg (M.1 (M.2.2 v0 54) v3.toNatClampNeg)
      let x16 := M15.1 (M.2.2 v0 55) v3.toNatClampNeg
      f_X12_layWay_17 Γ n M15 v0 x10 x16
def f_X12_layWay (Γ : rhG) (M : rhM) (v0 : Nat) (v1 : Int32) : Option (rhM) :=
  rhck (Γ.2.2.1 v0 = 13) <|
  rhck (Γ.2.2.1 (M.2.2 v0 56) = 15) <|
  rhck (0 ≤ (v1).toInt ∧ (v1).toInt < (Γ.2.2.2 (M.2.2 v0 56) : Nat)) <|
  let M4 := rhsi M v0 66 (M.1 (M.2.2 v0 56) v1.toNatClampNeg)
  let x5 := M4.1 v0 66
  f_X12_layWay_17 Γ rhFU M4 v0 x5 v1
set_option maxHeartbeats 4000000 in
set_option maxRecDepth 100000 in
theorem b_X12_layWay_17 {E : rhE} {Γ : rhG} : ∀ (n : Nat) (M : rhM) (v0 : Nat) (v2 : Int32) (v3 : Int32), rhF E 1 4 yX12_layWay cX12_layWay none Γ (rhe1U Γ) (f_X12_layWay_17 Γ n M v0 v2 v3) 17 [(0, rhR v0), (2, rhI v2), (3, rhI v3)] [] Γ M := by
  intro n
  induction n with
  | zero => intro M v0 v2 v3; rw [f_X12_layWay_17]; exact rhF.nope
  | succ n ih =>
    intro M v0 v2 v3
    rw [f_X12_layWay_17]
    refine rhF.aload_n (pc := 17) dX12_layWay_17 0 rfl ?_
    refine rhF.ck (fun h6 => ?_)
    refine rhF.get (pc := 18) (rhR _) dX12_layWay_18 fl_X12_126 h6 rfl ?_
    refine rhF.iload_n (pc := 21) dX12_layWay_21 2 rfl ?_
    refine rhF.ck (fun h7 => ?_)
    refine rhF.ck (fun h8 => ?_)
    refine rhF.iald (pc := 22) dX12_layWay_22 h7 h8 ?_
    refine rhF.if_lt (pc := 23) 51 dX12_layWay_23 (by decide) (fun h9 => ?_) (fun h9 => ?_)
    · exact rhF.vret (pc := 51) dX12_layWay_51 rfl rfl
    · refine rhF.iinc (pc := 26) (L' := [(2, rhI _), (0, rhR _), (3, rhI _)]) dX12_layWay_26 1 rfl rfl (by decide) rfl ?_
      refine rhF.aload_n (pc := 29) dX12_layWay_29 1 rfl ?_
      refine rhF.get (pc := 30) (rhR _) dX12_layWay_30 fl_X12_148 h6 rfl ?_
      refine rhF.iload_n (pc := 33) dX12_layWay_33 0 rfl ?_
      refine rhF.aload_n (pc := 34) dX12_layWay_34 1 rfl ?_
      refine rhF.get (pc := 35) (rhR _) dX12_layWay_35 fl_X12_123 h6 rfl ?_
      refine rhF.iload_n (pc := 38) dX12_layWay_38 2 rfl ?_
      refine rhF.ck (fun h11 => ?_)
      refine rhF.ck (fun h12 => ?_)
      refine rhF.iald (pc := 39) dX12_layWay_39 h11 h12 ?_
      refine rhF.ck (fun h13 => ?_)
      refine rhF.ck (fun h14 => ?_)
      refine rhF.iast (pc := 40) dX12_layWay_40 h13 h14 ?_
      refine rhF.aload_n (pc := 41) dX12_layWay_41 1 rfl ?_
      refine rhF.get (pc := 42) (rhR _) dX12_layWay_42 fl_X12_126 h6 rfl ?_
      refine rhF.iload_n (pc := 45) dX12_layWay_45 2 rfl ?_
      refine rhF.iald (pc := 46) dX12_layWay_46 h7 h8 ?_
      refine rhF.istore_n (pc := 47) (L' := [(3, rhI _), (2, rhI _), (0, rhR _)]) dX12_layWay_47 (by decide) rfl ?_
      refine rhF.goto (pc := 48) 17 dX12_layWay_48 (by decide) ?_
      refine rhF.sub [2, 1, 0] rfl ?_
      exact ih _ _ _ _
set_option maxHeartbeats 4000000 in
set_option maxRecDepth 100000 in
theorem b_X12_layWay {E : rhE} {Γ : rhG} : ∀ (M : rhM) (v0 : Nat) (v1 : Int32), rhF E 1 4 yX12_layWay cX12_layWay none Γ (rhe1U Γ) (f_X12_layWay Γ M v0 v1) 0 [(0, rhR v0), (1, rhI v1)] [] Γ M := by
  intro M v0 v1
  rw [f_X12_layWay]
  refine rhF.aload_n (pc := 0) dX12_layWay_0 0 rfl ?_
  refine rhF.aload_n (pc := 1) dX12_layWay_1 0 rfl ?_
  refine rhF.ck (fun h1 => ?_)
  refine rhF.get (pc := 2) (rhR _) dX12_layWay_2 fl_X12_129 h1 rfl ?_
  refine rhF.iload_n (pc := 5) dX12_layWay_5 1 rfl ?_
  refine rhF.ck (fun h2 => ?_)
  refine rhF.ck (fun h3 => ?_)
  refine rhF.iald (pc := 6) dX12_layWay_6 h2 h3 ?_
  refine rhF.puti (pc := 7) dX12_layWay_7 fl_X12_342 h1 (fun q hq => by cases hq; exact Or.inl rfl) ⟨rfl, rfl⟩ (fun _ => rfl) ?_
  refine rhF.aload_n (pc := 10) dX12_layWay_10 0 rfl ?_
  refine rhF.get (pc := 11) (rhI _) dX12_layWay_11 fl_X12_342 h1 rfl ?_
  refine rhF.istore_n (pc := 14) (L' := [(2, rhI _), (0, rhR _), (1, rhI _)]) dX12_layWay_14 (by decide) rfl ?_
  refine rhF.iload_n (pc := 15) dX12_layWay_15 2 rfl ?_
  refine rhF.istore_n (pc := 16) (L' := [(3, rhI _), (2, rhI _), (0, rhR _), (1, rhI _)]) dX12_layWay_16 (by decide) rfl ?_
  refine rhF.sub [2, 1, 0] rfl ?_
  exact (b_X12_layWay_17 rhFU) _ _ _ _
theorem c_X12_layWay (E : rhE) (Γ : rhG) (M : rhM) (v0 : Nat) (v1 : Int32) : ∀ a, f_X12_layWay Γ M v0 v1 = some a → rhC E 1 yX12_layWay cX12_layWay 4 none [rhR v0, rhI v1] Γ M ((rhe1U Γ) a) := rhF.met (by decide +kernel) (Nat.le_of_ble_eq_true rfl) (b_X12_layWay M v0 v1)
def f_X12_isFree_16 (k36 : Nat → Int32 → Option (Int32)) (k64 : Nat → Int32 → Int32 → Option (Int32)) (Γ : rhG) (M : rhM) : Nat → Nat → Int32 → Int32 → Int32 → Option (Int32)
  | 0, _, _, _, _ => none
  | n + 1, v0, v1, v2, v3 =>
    rhck (Γ.2.2.1 v0 = 13) <|
    rhck (Γ.2.2.1 (M.2.2 v0 40) = 15) <|
    rhck (0 ≤ (v2).toInt ∧ (v2).toInt < (Γ.2.2.2 (M.2.2 v0 40) : Nat)) <|
    if v3 < (M.1 (M.2.2 v0 40) v2.toNatClampNeg) then
      (rhck (Γ.2.2.1 (M.2.2 v0 39) = 15) <|
      rhck (0 ≤ (v3).toInt ∧ (v3).toInt < (Γ.2.2.2 (M.2.2 v0 39) : Nat)) <|
      if (M.1 (M.2.2 v0 39) v3.toNatClampNeg) = v1 then
        (k36 v0 v2)
      else
        let x12 : Int32 := v3 + 1
        f_X12_isFree_16 k36 k64 Γ M n v0 v1 v2 x12)
    else
      k64 v0 v1 v2
def f_X12_isFree_64 (k2 : Nat → Int32 → Int32 → Option (Int32)) (Γ : rhG) (M : rhM) (v0 : Nat) (v1 : Int32) (v2 : Int32) : Option (Int32) :=
  let x13 : Int32 := v2 + 1
  k2 v0 v1 x13
def f_X12_isFree_2 (k36 : Nat → Int32 → Option (Int32)) (Γ : rhG) (M : rhM) : Nat → Nat → Int32 → Int32 → Option (Int32)
  | 0, _, _, _ => none
  | n + 1, v0, v1, v2 =>
    rhck (Γ.2.2.1 v0 = 13) <|
    (f_X12_railMany Γ M v0).bind fun r2 =>
    if v2 < r2 then
      ((f_X12_beginOf Γ M v0 v2).bind fun r4 =>
      f_X12_isFree_16 k36 (f_X12_isFree_64 (f_X12_isFree_2 k36 Γ M n) Γ M) Γ M rhFU v0 v1 v2 r4)
    else
      some 1
def f_X12_isFree_36 (Γ : rhG) (M : rhM) (v0 : Nat) (v2 : Int32) : Option (Int32) :=
  rhck (Γ.2.2.1 v0 = 13) <|
  rhck (Γ.2.2.1 (M.2.2 v0 40) = 15) <|
  rhck (0 ≤ (v2).toInt ∧ (v2).toInt < (Γ.2.2.2 (M.2.2 v0 40) : Nat)) <|
  (f_X12_beginOf Γ M v0 v2).bind fun r17 =>
  if ((M.1 (M.2.2 v0 40) v2.toNatClampNeg) - r17) = 1 then
    (some 1)
  else
    some 0
def f_X12_isFree (Γ : rhG) (M : rhM) (v0 : Nat) (v1 : Int32) : Option (Int32) :=
  f_X12_isFree_2 (f_X12_isFree_36 Γ M) Γ M rhFU v0 v1 0
set_option maxHeartbeats 4000000 in
set_option maxRecDepth 100000 in
theorem b_X12_isFree_16 {E : rhE} {Γ : rhG} {M : rhM} {k36 : Nat → Int32 → Option (Int32)} {k64 : Nat → Int32 → Int32 → Option (Int32)} (hk36 : ∀ (v0 : Nat) (v2 : Int32), rhF E 5 4 yX12_isFree cX12_isFree (some .boolean) Γ (rhe0I Γ M) (k36 v0 v2) 36 [(0, rhR v0), (2, rhI v2)] [] Γ M) (hk64 : ∀ (v0 : Nat) (v1 : Int32) (v2 : Int32), rhF E 5 4 yX12_isFree cX12_isFree (some .boolean) Γ (rhe0I Γ M) (k64 v0 v1 v2) 64 [(0, rhR v0), (1, rhI v1), (2, rhI v2)] [] Γ M) : ∀ (n : Nat) (v0 : Nat) (v1 : Int32) (v2 : Int32) (v3 : Int32), rhF E 5 4 yX12_isFree cX12_isFree (some .boolean) Γ (rhe0I Γ M) (f_X12_isFree_16 k36 k64 Γ M n v0 v1 v2 v3) 16 [(0, rhR v0), (1, rhI v1), (2, rhI v2), (3, rhI v3)] [] Γ M := by
  intro n
  induction n with
  | zero => intro v0 v1 v2 v3; rw [f_X12_isFree_16]; exact rhF.nope
  | succ n ih =>
    intro v0 v1 v2 v3
    rw [f_X12_isFree_16]
    refine rhF.iload_n (pc := 16) dX12_isFree_16 3 rfl ?_
    refine rhF.aload_n (pc := 17) dX12_isFree_17 0 rfl ?_
    refine rhF.ck (fun h5 => ?_)
    refine rhF.get (pc := 18) (rhR _) dX12_isFree_18 fl_X12_95 h5 rfl ?_
    refine rhF.iload_n (pc := 21) dX12_isFree_21 2 rfl ?_
    refine rhF.ck (fun h6 => ?_)
    refine rhF.ck (fun h7 => ?_)
    refine rhF.iald (pc := 22) dX12_isFree_22 h6 h7 ?_
    refine rhF.icmp_ge (pc := 23) 64 dX12_isFree_23 (by decide) (fun h8 => ?_) (fun h8 => ?_)
    · refine rhF.aload_n (pc := 26) dX12_isFree_26 0 rfl ?_
      refine rhF.get (pc := 27) (rhR _) dX12_isFree_27 fl_X12_92 h5 rfl ?_
      refine rhF.iload_n (pc := 30) dX12_isFree_30 3 rfl ?_
      refine rhF.ck (fun h9 => ?_)
      refine rhF.ck (fun h10 => ?_)
      refine rhF.iald (pc := 31) dX12_isFree_31 h9 h10 ?_
      refine rhF.iload_n (pc := 32) dX12_isFree_32 1 rfl ?_
      refine rhF.icmp_ne (pc := 33) 58 dX12_isFree_33 (by decide) (fun h11 => ?_) (fun h11 => ?_)
      · refine rhF.sub [0, 2] rfl ?_
        exact hk36 _ _
      · refine rhF.iinc (pc := 58) (L' := [(3, rhI _), (0, rhR _), (1, rhI _), (2, rhI _)]) dX12_isFree_58 3 rfl rfl (by decide) rfl ?_
        refine rhF.goto (pc := 61) 16 dX12_isFree_61 (by decide) ?_
        refine rhF.sub [1, 2, 3, 0] rfl ?_
        exact ih _ _ _ _
    · refine rhF.sub [0, 1, 2] rfl ?_
      exact hk64 _ _ _
set_option maxHeartbeats 4000000 in
set_option maxRecDepth 100000 in
theorem b_X12_isFree_64 {E : rhE} {Γ : rhG} {M : rhM} {k2 : Nat → Int32 → Int32 → Option (Int32)} (hk2 : ∀ (v0 : Nat) (v1 : Int32) (v2 : Int32), rhF E 5 4 yX12_isFree cX12_isFree (some .boolean) Γ (rhe0I Γ M) (k2 v0 v1 v2) 2 [(0, rhR v0), (1, rhI v1), (2, rhI v2)] [] Γ M) : ∀ (v0 : Nat) (v1 : Int32) (v2 : Int32), rhF E 5 4 yX12_isFree cX12_isFree (some .boolean) Γ (rhe0I Γ M) (f_X12_isFree_64 k2 Γ M v0 v1 v2) 64 [(0, rhR v0), (1, rhI v1), (2, rhI v2)] [] Γ M := by
  intro v0 v1 v2
  rw [f_X12_isFree_64]
  refine rhF.iinc (pc := 64) (L' := [(2, rhI _), (0, rhR _), (1, rhI _)]) dX12_isFree_64 2 rfl rfl (by decide) rfl ?_
  refine rhF.goto (pc := 67) 2 dX12_isFree_67 (by decide) ?_
  refine rhF.sub [1, 2, 0] rfl ?_
  exact hk2 _ _ _
set_option maxHeartbeats 4000000 in
set_option maxRecDepth 100000 in
theorem b_X12_isFree_2 {E : rhE} {Γ : rhG} {M : rhM} {k36 : Nat → Int32 → Option (Int32)} (hk36 : ∀ (v0 : Nat) (v2 : Int32), rhF E 5 4 yX12_isFree cX12_isFree (some .boolean) Γ (rhe0I Γ M) (k36 v0 v2) 36 [(0, rhR v0), (2, rhI v2)] [] Γ M) : ∀ (n : Nat) (v0 : Nat) (v1 : Int32) (v2 : Int32), rhF E 5 4 yX12_isFree cX12_isFree (some .boolean) Γ (rhe0I Γ M) (f_X12_isFree_2 k36 Γ M n v0 v1 v2) 2 [(0, rhR v0), (1, rhI v1), (2, rhI v2)] [] Γ M := by
  intro n
  induction n with
  | zero => intro v0 v1 v2; rw [f_X12_isFree_2]; exact rhF.nope
  | succ n ih =>
    intro v0 v1 v2
    rw [f_X12_isFree_2]
    refine rhF.iload_n (pc := 2) dX12_isFree_2 2 rfl ?_
    refine rhF.aload_n (pc := 3) dX12_isFree_3 0 rfl ?_
    refine rhF.ck (fun h1 => ?_)
    refine rhF.callV (pc := 4) (ci := 12) (embc := rhe0I _ _) [] dX12_isFree_4 ml_X12_412 mv_X12_railMany ⟨_, rfl, rfl⟩ h1 (c_X12_railMany _ _ _ _) (by decide) (by decide) rfl (Nat.le_of_ble_eq_true rfl) (fun r2 _ => ?_)
    refine rhF.icmp_ge (pc := 7) 70 dX12_isFree_7 (by decide) (fun h3 => ?_) (fun h3 => ?_)
    · refine rhF.aload_n (pc := 10) dX12_isFree_10 0 rfl ?_
      refine rhF.iload_n (pc := 11) dX12_isFree_11 2 rfl ?_
      refine rhF.callV (pc := 12) (ci := 12) (embc := rhe0I _ _) [rhI _] dX12_isFree_12 ml_X12_425 mv_X12_beginOf ⟨_, rfl, rfl⟩ h1 (c_X12_beginOf _ _ _ _ _) (by decide) (by decide) rfl (Nat.le_of_ble_eq_true rfl) (fun r4 _ => ?_)
      refine rhF.istore_n (pc := 15) (L' := [(3, rhI _), (0, rhR _), (1, rhI _), (2, rhI _)]) dX12_isFree_15 (by decide) rfl ?_
      refine rhF.sub [1, 2, 3, 0] rfl ?_
      exact (b_X12_isFree_16 hk36 (b_X12_isFree_64 ih) rhFU) _ _ _ _
    · refine rhF.iconst (pc := 70) (v := 1) dX12_isFree_70 (by decide) ?_
      exact rhF.zret (pc := 71) dX12_isFree_71 rfl rfl rfl
set_option maxHeartbeats 4000000 in
set_option maxRecDepth 100000 in
theorem b_X12_isFree_36 {E : rhE} {Γ : rhG} {M : rhM} : ∀ (v0 : Nat) (v2 : Int32), rhF E 5 4 yX12_isFree cX12_isFree (some .boolean) Γ (rhe0I Γ M) (f_X12_isFree_36 Γ M v0 v2) 36 [(0, rhR v0), (2, rhI v2)] [] Γ M := by
  intro v0 v2
  rw [f_X12_isFree_36]
  refine rhF.aload_n (pc := 36) dX12_isFree_36 0 rfl ?_
  refine rhF.ck (fun h14 => ?_)
  refine rhF.get (pc := 37) (rhR _) dX12_isFree_37 fl_X12_95 h14 rfl ?_
  refine rhF.iload_n (pc := 40) dX12_isFree_40 1 rfl ?_
  refine rhF.ck (fun h15 => ?_)
  refine rhF.ck (fun h16 => ?_)
  refine rhF.iald (pc := 41) dX12_isFree_41 h15 h16 ?_
  refine rhF.aload_n (pc := 42) dX12_isFree_42 0 rfl ?_
  refine rhF.iload_n (pc := 43) dX12_isFree_43 1 rfl ?_
  refine rhF.callV (pc := 44) (ci := 12) (embc := rhe0I _ _) [rhI _] dX12_isFree_44 ml_X12_425 mv_X12_beginOf ⟨_, rfl, rfl⟩ h14 (c_X12_beginOf _ _ _ _ _) (by decide) (by decide) rfl (Nat.le_of_ble_eq_true rfl) (fun r17 _ => ?_)
  refine rhF.isub (pc := 47) dX12_isFree_47 ?_
  refine rhF.iconst (pc := 48) (v := 1) dX12_isFree_48 (by decide) ?_
  refine rhF.icmp_ne (pc := 49) 56 dX12_isFree_49 (by decide) (fun h18 => ?_) (fun h18 => ?_)
  · refine rhF.iconst (pc := 52) (v := 1) dX12_isFree_52 (by decide) ?_
    refine rhF.goto (pc := 53) 57 dX12_isFree_53 (by decide) ?_
    exact rhF.zret (pc := 57) dX12_isFree_57 rfl rfl rfl
  · refine rhF.iconst (pc := 56) (v := 0) dX12_isFree_56 (by decide) ?_
    exact rhF.zret (pc := 57) dX12_isFree_57 rfl rfl rfl
set_option maxHeartbeats 4000000 in
set_option maxRecDepth 100000 in
theorem b_X12_isFree {E : rhE} {Γ : rhG} {M : rhM} : ∀ (v0 : Nat) (v1 : Int32), rhF E 5 4 yX12_isFree cX12_isFree (some .boolean) Γ (rhe0I Γ M) (f_X12_isFree Γ M v0 v1) 0 [(0, rhR v0), (1, rhI v1)] [] Γ M := by
  intro v0 v1
  rw [f_X12_isFree]
  refine rhF.iconst (pc := 0) (v := 0) dX12_isFree_0 (by decide) ?_
  refine rhF.istore_n (pc := 1) (L' := [(2, rhI _), (0, rhR _), (1, rhI _)]) dX12_isFree_1 (by decide) rfl ?_
  refine rhF.sub [1, 2, 0] rfl ?_
  exact (b_X12_isFree_2 (b_X12_isFree_36) rhFU) _ _ _
theorem c_X12_isFree (E : rhE) (Γ : rhG) (M : rhM) (v0 : Nat) (v1 : Int32) : ∀ a, f_X12_isFree Γ M v0 v1 = some a → rhC E 5 yX12_isFree cX12_isFree 4 (some .boolean) [rhR v0, rhI v1] Γ M ((rhe0I Γ M) a) := rhF.met (by decide +kernel) (Nat.le_of_ble_eq_true rfl) (b_X12_isFree v0 v1)
def f_X12_isEnd_58 (Γ : rhG) (M : rhM) : Nat → Nat → Int32 → Option (Int32)
  | 0, _, _ => none
  | n + 1, v0, v1 =>
    rhck (Γ.2.2.1 v0 = 13) <|
    if v1 < (M.1 v0 53) then
      (rhck (Γ.2.2.1 (M.2.2 v0 39) = 15) <|
      rhck (0 ≤ (v1).toInt ∧ (v1).toInt < (Γ.2.2.2 (M.2.2 v0 39) : Nat)) <|
      rhck (Γ.2.2.1 (M.2.2 v0 52) = 15) <|
      rhck (0 ≤ (v1).toInt ∧ (v1).toInt < (Γ.2.2.2 (M.2.2 v0 52) : Nat)) <|
      if (M.1 (M.2.2 v0 39) v1.toNatClampNeg) = (M.1 (M.2.2 v0 52) v1.toNatClampNeg) then
        (let x19 : Int32 := v1 + 1
        f_X12_isEnd_58 Γ M n v0 x19)
      else
        some 0)
    else
      some 1
def f_X12_isEnd_56 (Γ : rhG) (M : rhM) (v0 : Nat) : Option (Int32) :=
  f_X12_isEnd_58 Γ M rhFU v0 0
def f_X12_isEnd (Γ : rhG) (M : rhM) (v0 : Nat) : Option (Int32) :=
  rhck (Γ.2.2.1 v0 = 13) <|
  if (M.1 v0 61) = 2 then
    (some 0)
  else
    if (M.1 v0 61) = 1 then
      ((f_X12_isFree Γ M v0 (M.1 v0 62)).bind fun r4 =>
      rhck (r4 = 0 ∨ r4 = 1) <|
      some r4)
    else
      if 0 < (M.1 v0 53) then
        ((f_X12_railMany Γ M v0).bind fun r7 =>
        if r7 = 0 then
          (some 0)
        else
          rhck (Γ.2.2.1 (M.2.2 v0 40) = 15) <|
          rhck (0 ≤ (0 : Int32).toInt ∧ (0 : Int32).toInt < (Γ.2.2.2 (M.2.2 v0 40) : Nat)) <|
          if (M.1 (M.2.2 v0 40) (0 : Int32).toNatClampNeg) < (M.1 v0 53) then
            (some 0)
          else
            f_X12_isEnd_56 Γ M v0)
      else
        f_X12_isEnd_56 Γ M v0
set_option maxHeartbeats 4000000 in
set_option maxRecDepth 100000 in
theorem b_X12_isEnd_58 {E : rhE} {Γ : rhG} {M : rhM} : ∀ (n : Nat) (v0 : Nat) (v1 : Int32), rhF E 6 2 yX12_isEnd cX12_isEnd (some .boolean) Γ (rhe0I Γ M) (f_X12_isEnd_58 Γ M n v0 v1) 58 [(0, rhR v0), (1, rhI v1)] [] Γ M := by
  intro n
  induction n with
  | zero => intro v0 v1; rw [f_X12_isEnd_58]; exact rhF.nope
  | succ n ih =>
    intro v0 v1
    rw [f_X12_isEnd_58]
    refine rhF.iload_n (pc := 58) dX12_isEnd_58 1 rfl ?_
    refine rhF.aload_n (pc := 59) dX12_isEnd_59 0 rfl ?_
    refine rhF.ck (fun h12 => ?_)
    refine rhF.get (pc := 60) (rhI _) dX12_isEnd_60 fl_X12_339 h12 rfl ?_
    refine rhF.icmp_ge (pc := 63) 89 dX12_isEnd_63 (by decide) (fun h13 => ?_) (fun h13 => ?_)
    · refine rhF.aload_n (pc := 66) dX12_isEnd_66 0 rfl ?_
      refine rhF.get (pc := 67) (rhR _) dX12_isEnd_67 fl_X12_92 h12 rfl ?_
      refine rhF.iload_n (pc := 70) dX12_isEnd_70 1 rfl ?_
      refine rhF.ck (fun h14 => ?_)
      refine rhF.ck (fun h15 => ?_)
      refine rhF.iald (pc := 71) dX12_isEnd_71 h14 h15 ?_
      refine rhF.aload_n (pc := 72) dX12_isEnd_72 0 rfl ?_
      refine rhF.get (pc := 73) (rhR _) dX12_isEnd_73 fl_X12_119 h12 rfl ?_
      refine rhF.iload_n (pc := 76) dX12_isEnd_76 1 rfl ?_
      refine rhF.ck (fun h16 => ?_)
      refine rhF.ck (fun h17 => ?_)
      refine rhF.iald (pc := 77) dX12_isEnd_77 h16 h17 ?_
      refine rhF.icmp_eq (pc := 78) 83 dX12_isEnd_78 (by decide) (fun h18 => ?_) (fun h18 => ?_)
      · refine rhF.iinc (pc := 83) (L' := [(1, rhI _), (0, rhR _)]) dX12_isEnd_83 1 rfl rfl (by decide) rfl ?_
        refine rhF.goto (pc := 86) 58 dX12_isEnd_86 (by decide) ?_
        refine rhF.sub [1, 0] rfl ?_
        exact ih _ _
      · refine rhF.iconst (pc := 81) (v := 0) dX12_isEnd_81 (by decide) ?_
        exact rhF.zret (pc := 82) dX12_isEnd_82 rfl rfl rfl
    · refine rhF.iconst (pc := 89) (v := 1) dX12_isEnd_89 (by decide) ?_
      exact rhF.zret (pc := 90) dX12_isEnd_90 rfl rfl rfl
set_option maxHeartbeats 4000000 in
set_option maxRecDepth 100000 in
theorem b_X12_isEnd_56 {E : rhE} {Γ : rhG} {M : rhM} : ∀ (v0 : Nat), rhF E 6 2 yX12_isEnd cX12_isEnd (some .boolean) Γ (rhe0I Γ M) (f_X12_isEnd_56 Γ M v0) 56 [(0, rhR v0)] [] Γ M := by
  intro v0
  rw [f_X12_isEnd_56]
  refine rhF.iconst (pc := 56) (v := 0) dX12_isEnd_56 (by decide) ?_
  refine rhF.istore_n (pc := 57) (L' := [(1, rhI _), (0, rhR _)]) dX12_isEnd_57 (by decide) rfl ?_
  refine rhF.sub [1, 0] rfl ?_
  exact (b_X12_isEnd_58 rhFU) _ _
set_option maxHeartbeats 4000000 in
set_option maxRecDepth 100000 in
theorem b_X12_isEnd {E : rhE} {Γ : rhG} {M : rhM} : ∀ (v0 : Nat), rhF E 6 2 yX12_isEnd cX12_isEnd (some .boolean) Γ (rhe0I Γ M) (f_X12_isEnd Γ M v0) 0 [(0, rhR v0)] [] Γ M := by
  intro v0
  rw [f_X12_isEnd]
  refine rhF.aload_n (pc := 0) dX12_isEnd_0 0 rfl ?_
  refine rhF.ck (fun h1 => ?_)
  refine rhF.get (pc := 1) (rhI _) dX12_isEnd_1 fl_X12_481 h1 rfl ?_
  refine rhF.iconst (pc := 4) (v := 2) dX12_isEnd_4 (by decide) ?_
  refine rhF.icmp_ne (pc := 5) 10 dX12_isEnd_5 (by decide) (fun h2 => ?_) (fun h2 => ?_)
  · refine rhF.iconst (pc := 8) (v := 0) dX12_isEnd_8 (by decide) ?_
    exact rhF.zret (pc := 9) dX12_isEnd_9 rfl rfl rfl
  · refine rhF.aload_n (pc := 10) dX12_isEnd_10 0 rfl ?_
    refine rhF.get (pc := 11) (rhI _) dX12_isEnd_11 fl_X12_481 h1 rfl ?_
    refine rhF.iconst (pc := 14) (v := 1) dX12_isEnd_14 (by decide) ?_
    refine rhF.icmp_ne (pc := 15) 27 dX12_isEnd_15 (by decide) (fun h3 => ?_) (fun h3 => ?_)
    · refine rhF.aload_n (pc := 18) dX12_isEnd_18 0 rfl ?_
      refine rhF.aload_n (pc := 19) dX12_isEnd_19 0 rfl ?_
      refine rhF.get (pc := 20) (rhI _) dX12_isEnd_20 fl_X12_484 h1 rfl ?_
      refine rhF.callV (pc := 23) (ci := 12) (embc := rhe0I _ _) [rhI _] dX12_isEnd_23 ml_X12_487 mv_X12_isFree ⟨_, rfl, rfl⟩ h1 (c_X12_isFree _ _ _ _ _) (by decide) (by decide) rfl (Nat.le_of_ble_eq_true rfl) (fun r4 _ => ?_)
      refine rhF.ck (fun h5 => ?_)
      exact rhF.zret (pc := 26) dX12_isEnd_26 rfl (rhzb h5) rfl
    · refine rhF.aload_n (pc := 27) dX12_isEnd_27 0 rfl ?_
      refine rhF.get (pc := 28) (rhI _) dX12_isEnd_28 fl_X12_339 h1 rfl ?_
      refine rhF.if_le (pc := 31) 56 dX12_isEnd_31 (by decide) (fun h6 => ?_) (fun h6 => ?_)
      · refine rhF.aload_n (pc := 34) dX12_isEnd_34 0 rfl ?_
        refine rhF.callV (pc := 35) (ci := 12) (embc := rhe0I _ _) [] dX12_isEnd_35 ml_X12_412 mv_X12_railMany ⟨_, rfl, rfl⟩ h1 (c_X12_railMany _ _ _ _) (by decide) (by decide) rfl (Nat.le_of_ble_eq_true rfl) (fun r7 _ => ?_)
        refine rhF.if_eq (pc := 38) 54 dX12_isEnd_38 (by decide) (fun h8 => ?_) (fun h8 => ?_)
        · refine rhF.iconst (pc := 54) (v := 0) dX12_isEnd_54 (by decide) ?_
          exact rhF.zret (pc := 55) dX12_isEnd_55 rfl rfl rfl
        · refine rhF.aload_n (pc := 41) dX12_isEnd_41 0 rfl ?_
          refine rhF.get (pc := 42) (rhR _) dX12_isEnd_42 fl_X12_95 h1 rfl ?_
          refine rhF.iconst (pc := 45) (v := 0) dX12_isEnd_45 (by decide) ?_
          refine rhF.ck (fun h9 => ?_)
          refine rhF.ck (fun h10 => ?_)
          refine rhF.iald (pc := 46) dX12_isEnd_46 h9 h10 ?_
          refine rhF.aload_n (pc := 47) dX12_isEnd_47 0 rfl ?_
          refine rhF.get (pc := 48) (rhI _) dX12_isEnd_48 fl_X12_339 h1 rfl ?_
          refine rhF.icmp_ge (pc := 51) 56 dX12_isEnd_51 (by decide) (fun h11 => ?_) (fun h11 => ?_)
          · refine rhF.iconst (pc := 54) (v := 0) dX12_isEnd_54 (by decide) ?_
            exact rhF.zret (pc := 55) dX12_isEnd_55 rfl rfl rfl
          · exact (b_X12_isEnd_56) _
      · exact (b_X12_isEnd_56) _
theorem c_X12_isEnd (E : rhE) (Γ : rhG) (M : rhM) (v0 : Nat) : ∀ a, f_X12_isEnd Γ M v0 = some a → rhC E 6 yX12_isEnd cX12_isEnd 2 (some .boolean) [rhR v0] Γ M ((rhe0I Γ M) a) := rhF.met (by decide +kernel) (Nat.le_of_ble_eq_true rfl) (b_X12_isEnd v0)
def f_X12_layState_10 (k37 : rhM → Nat → Int32 → Int32 → Option (rhM)) (Γ : rhG) : Nat → rhM → Nat → Int32 → Int32 → Int32 → Option (rhM)
  | 0, _, _, _, _, _ => none
  | n + 1, M, v0, v2, v3, v4 =>
    if v4 < 0 then
      (k37 M v0 v2 v3)
    else
      rhck (Γ.2.2.1 v0 = 13) <|
      rhck (Γ.2.2.1 (M.2.2 v0 40) = 15) <|
      rhck (0 ≤ (v4).toInt ∧ (v4).toInt < (Γ.2.2.2 (M.2.2 v0 40) : Nat)) <|
      let M7 := rhsi M (M.2.2 v0 40) (v4 : Int32).toNatClampNeg (v3 - v3 / 7 * 7)
      let x8 := v3 / 7
      let x9 : Int32 := v4 + (-1)
      f_X12_layState_10 k37 Γ n M7 v0 v2 x8 x9
def f_X12_layState_60 (k91 : rhM → Nat → Int32 → Int32 → Option (rhM)) (Γ : rhG) : Nat → rhM → Nat → Int32 → Int32 → Int32 → Int32 → Option (rhM)
  | 0, _, _, _, _, _, _ => none
  | n + 1, M, v0, v2, v3, v4, v5 =>
    if v5 < 0 then
      (k91 M v0 v2 v4)
    else
      rhck (Γ.2.2.1 v0 = 13) <|
      rhck (¬ (v2 - v5) = 0) <|
      rhck (Γ.2.2.1 (M.2.2 v0 41) = 15) <|
      rhck (0 ≤ (v5).toInt ∧ (v5).toInt < (Γ.2.2.2 (M.2.2 v0 41) : Nat)) <|
      let M22 := rhsi M (M.2.2 v0 41) (v5 : Int32).toNatClampNeg (v3 - v3 / (v2 - v5) * (v2 - v5))
      rhck (¬ (v2 - v5) = 0) <|
      let x24 := v3 / (v2 - v5)
      let x25 : Int32 := v5 + (-1)
      f_X12_layState_60 k91 Γ n M22 v0 v2 x24 v4 x25
def f_X12_layState_146 (k112 : rhM → Nat → Int32 → Int32 → Int32 → Int32 → Int32 → Option (rhM)) (Γ : rhG) (M : rhM) (v0 : Nat) (v2 : Int32) (v4 : Int32) (v5 : Int32) (v6 : Int32) (s0 : Int32) (s1 : Int32) : Option (rhM) :=
  let x33 := s0 - s1
  let x34 : Int32 := v6 + 1
  k112 M v0 v2 v4 v5 x34 x33
def f_X12_layState_128 (k112 : rhM → Nat → Int32 → Int32 → Int32 → Int32 → Int32 → Option (rhM)) (Γ : rhG) (M : rhM) (v0 : Nat) (v2 : Int32) (v4 : Int32) (v5 : Int32) (v6 : Int32) (v7 : Int32) : Option (rhM) :=
  if ((v4 >>> (v6 &&& 31)) &&& 1) = 1 then
    (f_X12_layState_146 k112 Γ M v0 v2 v4 v5 v6 v7 0)
  else
    f_X12_layState_146 k112 Γ M v0 v2 v4 v5 v6 v7 1
def f_X12_layState_112 (k155 : rhM → Nat → Int32 → Int32 → Int32 → Int32 → Option (rhM)) (Γ : rhG) : Nat → rhM → Nat → Int32 → Int32 → Int32 → Int32 → Int32 → Option (rhM)
  | 0, _, _, _, _, _, _, _ => none
  | n + 1, M, v0, v2, v4, v5, v6, v7 =>
    if ((v4 >>> (v6 &&& 31)) &&& 1) = 1 then
      (f_X12_layState_128 (f_X12_layState_112 k155 Γ n) Γ M v0 v2 v4 v5 v6 v7)
    else
      if 0 < v7 then
        (f_X12_layState_128 (f_X12_layState_112 k155 Γ n) Γ M v0 v2 v4 v5 v6 v7)
      else
        k155 M v0 v2 v4 v5 v6
def f_X12_layState_155 (k94 : rhM → Nat → Int32 → Int32 → Int32 → Option (rhM)) (Γ : rhG) (M : rhM) (v0 : Nat) (v2 : Int32) (v4 : Int32) (v5 : Int32) (v6 : Int32) : Option (rhM) :=
  rhck (Γ.2.2.1 v0 = 13) <|
  rhck (Γ.2.2.1 (M.2.2 v0 39) = 15) <|
  rhck (0 ≤ (v5).toInt ∧ (v5).toInt < (Γ.2.2.2 (M.2.2 v0 39) : Nat)) <|
  let M39 := rhsi M (M.2.2 v0 39) (v5 : Int32).toNatClampNeg v6
  let x40 := v4 ||| (1 <<< (v6 &&& 31))
  let x41 : Int32 := v5 + 1
  k94 M39 v0 v2 x40 x41
def f_X12_layState_94 (Γ : rhG) : Nat → rhM → Nat → Int32 → Int32 → Int32 → Option (rhM)
  | 0, _, _, _, _, _ => none
  | n + 1, M, v0, v2, v4, v5 =>
    if v5 < v2 then
      (rhck (Γ.2.2.1 v0 = 13) <|
      rhck (Γ.2.2.1 (M.2.2 v0 41) = 15) <|
      rhck (0 ≤ (v5).toInt ∧ (v5).toInt < (Γ.2.2.2 (M.2.2 v0 41) : Nat)) <|
      let x30 := M.1 (M.2.2 v0 41) v5.toNatClampNeg
      f_X12_layState_112 (f_X12_layState_155 (f_X12_layState_94 Γ n) Γ) Γ rhFU M v0 v2 v4 v5 0 x30)
    else
      some M
def f_X12_layState_91 (Γ : rhG) (M : rhM) (v0 : Nat) (v2 : Int32) (v4 : Int32) : Option (rhM) :=
  f_X12_layState_94 Γ rhFU M v0 v2 v4 0
def f_X12_layState_52 (Γ : rhG) (M : rhM) (v0 : Nat) (v2 : Int32) (v3 : Int32) : Option (rhM) :=
  let x16 := v2 - 1
  f_X12_layState_60 (f_X12_layState_91 Γ) Γ rhFU M v0 v2 v3 0 x16
def f_X12_layState_37 (Γ : rhG) (M : rhM) (v0 : Nat) (v2 : Int32) (v3 : Int32) : Option (rhM) :=
  rhck (Γ.2.2.1 v0 = 13) <|
  (f_X12_railMany Γ M v0).bind fun r11 =>
  if 3 < r11 then
    (rhck (Γ.2.2.1 (M.2.2 v0 40) = 15) <|
    rhck (0 ≤ (3 : Int32).toInt ∧ (3 : Int32).toInt < (Γ.2.2.2 (M.2.2 v0 40) : Nat)) <|
    let M15 := rhsi M (M.2.2 v0 40) (3 : Int32).toNatClampNeg v2
    f_X12_layState_52 Γ M15 v0 v2 v3)
  else
    f_X12_layState_52 Γ M v0 v2 v3
def f_X12_layState (Γ : rhG) (M : rhM) (v0 : Nat) (v1 : Int32) : Option (rhM) :=
  rhck (Γ.2.2.1 v0 = 13) <|
  (f_X12_houseMany Γ M v0).bind fun r2 =>
  f_X12_layState_10 (f_X12_layState_37 Γ) Γ rhFU M v0 r2 v1 2
set_option maxHeartbeats 4000000 in
set_option maxRecDepth 100000 in
theorem b_X12_layState_10 {E : rhE} {Γ : rhG} {k37 : rhM → Nat → Int32 → Int32 → Option (rhM)} (hk37 : ∀ (M : rhM) (v0 : Nat) (v2 : Int32) (v3 : Int32), rhF E 5 8 yX12_layState cX12_layState none Γ (rhe1U Γ) (k37 M v0 v2 v3) 37 [(0, rhR v0), (2, rhI v2), (3, rhI v3)] [] Γ M) : ∀ (n : Nat) (M : rhM) (v0 : Nat) (v2 : Int32) (v3 : Int32) (v4 : Int32), rhF E 5 8 yX12_layState cX12_layState none Γ (rhe1U Γ) (f_X12_layState_10 k37 Γ n M v0 v2 v3 v4) 10 [(0, rhR v0), (2, rhI v2), (3, rhI v3), (4, rhI v4)] [] Γ M := by
  intro n
  induction n with
  | zero => intro M v0 v2 v3 v4; rw [f_X12_layState_10]; exact rhF.nope
  | succ n ih =>
    intro M v0 v2 v3 v4
    rw [f_X12_layState_10]
    refine rhF.iload (pc := 10) dX12_layState_10 3 rfl ?_
    refine rhF.if_lt (pc := 12) 37 dX12_layState_12 (by decide) (fun h3 => ?_) (fun h3 => ?_)
    · refine rhF.sub [0, 1, 2] rfl ?_
      exact hk37 _ _ _ _
    · refine rhF.aload_n (pc := 15) dX12_layState_15 0 rfl ?_
      refine rhF.ck (fun h4 => ?_)
      refine rhF.get (pc := 16) (rhR _) dX12_layState_16 fl_X12_95 h4 rfl ?_
      refine rhF.iload (pc := 19) dX12_layState_19 3 rfl ?_
      refine rhF.iload_n (pc := 21) dX12_layState_21 2 rfl ?_
      refine rhF.bipush (pc := 22) (v := 7) dX12_layState_22 (by decide) ?_
      refine rhF.iremc (pc := 24) dX12_layState_24 (by decide) ?_
      refine rhF.ck (fun h5 => ?_)
      refine rhF.ck (fun h6 => ?_)
      refine rhF.iast (pc := 25) dX12_layState_25 h5 h6 ?_
      refine rhF.iload_n (pc := 26) dX12_layState_26 2 rfl ?_
      refine rhF.bipush (pc := 27) (v := 7) dX12_layState_27 (by decide) ?_
      refine rhF.idivc (pc := 29) dX12_layState_29 (by decide) ?_
      refine rhF.istore_n (pc := 30) (L' := [(3, rhI _), (0, rhR _), (2, rhI _), (4, rhI _)]) dX12_layState_30 (by decide) rfl ?_
      refine rhF.iinc (pc := 31) (L' := [(4, rhI _), (3, rhI _), (0, rhR _), (2, rhI _)]) dX12_layState_31 3 rfl rfl (by decide) rfl ?_
      refine rhF.goto (pc := 34) 10 dX12_layState_34 (by decide) ?_
      refine rhF.sub [2, 3, 1, 0] rfl ?_
      exact ih _ _ _ _ _
set_option maxHeartbeats 4000000 in
set_option maxRecDepth 100000 in
theorem b_X12_layState_60 {E : rhE} {Γ : rhG} {k91 : rhM → Nat → Int32 → Int32 → Option (rhM)} (hk91 : ∀ (M : rhM) (v0 : Nat) (v2 : Int32) (v4 : Int32), rhF E 5 8 yX12_layState cX12_layState none Γ (rhe1U Γ) (k91 M v0 v2 v4) 91 [(0, rhR v0), (2, rhI v2), (4, rhI v4)] [] Γ M) : ∀ (n : Nat) (M : rhM) (v0 : Nat) (v2 : Int32) (v3 : Int32) (v4 : Int32) (v5 : Int32), rhF E 5 8 yX12_layState cX12_layState none Γ (rhe1U Γ) (f_X12_layState_60 k91 Γ n M v0 v2 v3 v4 v5) 60 [(0, rhR v0), (2, rhI v2), (3, rhI v3), (4, rhI v4), (5, rhI v5)] [] Γ M := by
  intro n
  induction n with
  | zero => intro M v0 v2 v3 v4 v5; rw [f_X12_layState_60]; exact rhF.nope
  | succ n ih =>
    intro M v0 v2 v3 v4 v5
    rw [f_X12_layState_60]
    refine rhF.iload (pc := 60) dX12_layState_60 4 rfl ?_
    refine rhF.if_lt (pc := 62) 91 dX12_layState_62 (by decide) (fun h17 => ?_) (fun h17 => ?_)
    · refine rhF.sub [0, 1, 3] rfl ?_
      exact hk91 _ _ _ _
    · refine rhF.aload_n (pc := 65) dX12_layState_65 0 rfl ?_
      refine rhF.ck (fun h18 => ?_)
      refine rhF.get (pc := 66) (rhR _) dX12_layState_66 fl_X12_98 h18 rfl ?_
      refine rhF.iload (pc := 69) dX12_layState_69 4 rfl ?_
      refine rhF.iload_n (pc := 71) dX12_layState_71 2 rfl ?_
      refine rhF.iload_n (pc := 72) dX12_layState_72 1 rfl ?_
      refine rhF.iload (pc := 73) dX12_layState_73 4 rfl ?_
      refine rhF.isub (pc := 75) dX12_layState_75 ?_
      refine rhF.ck (fun h19 => ?_)
      refine rhF.iremc (pc := 76) dX12_layState_76 h19 ?_
      refine rhF.ck (fun h20 => ?_)
      refine rhF.ck (fun h21 => ?_)
      refine rhF.iast (pc := 77) dX12_layState_77 h20 h21 ?_
      refine rhF.iload_n (pc := 78) dX12_layState_78 2 rfl ?_
      refine rhF.iload_n (pc := 79) dX12_layState_79 1 rfl ?_
      refine rhF.iload (pc := 80) dX12_layState_80 4 rfl ?_
      refine rhF.isub (pc := 82) dX12_layState_82 ?_
      refine rhF.ck (fun h23 => ?_)
      refine rhF.idivc (pc := 83) dX12_layState_83 h23 ?_
      refine rhF.istore_n (pc := 84) (L' := [(3, rhI _), (0, rhR _), (2, rhI _), (4, rhI _), (5, rhI _)]) dX12_layState_84 (by decide) rfl ?_
      refine rhF.iinc (pc := 85) (L' := [(5, rhI _), (3, rhI _), (0, rhR _), (2, rhI _), (4, rhI _)]) dX12_layState_85 4 rfl rfl (by decide) rfl ?_
      refine rhF.goto (pc := 88) 60 dX12_layState_88 (by decide) ?_
      refine rhF.sub [2, 3, 1, 4, 0] rfl ?_
      exact ih _ _ _ _ _ _
set_option maxHeartbeats 4000000 in
set_option maxRecDepth 100000 in
theorem b_X12_layState_146 {E : rhE} {Γ : rhG} {k112 : rhM → Nat → Int32 → Int32 → Int32 → Int32 → Int32 → Option (rhM)} (hk112 : ∀ (M : rhM) (v0 : Nat) (v2 : Int32) (v4 : Int32) (v5 : Int32) (v6 : Int32) (v7 : Int32), rhF E 5 8 yX12_layState cX12_layState none Γ (rhe1U Γ) (k112 M v0 v2 v4 v5 v6 v7) 112 [(0, rhR v0), (2, rhI v2), (4, rhI v4), (5, rhI v5), (6, rhI v6), (7, rhI v7)] [] Γ M) : ∀ (M : rhM) (v0 : Nat) (v2 : Int32) (v4 : Int32) (v5 : Int32) (v6 : Int32) (s0 : Int32) (s1 : Int32), rhF E 5 8 yX12_layState cX12_layState none Γ (rhe1U Γ) (f_X12_layState_146 k112 Γ M v0 v2 v4 v5 v6 s0 s1) 146 [(0, rhR v0), (2, rhI v2), (4, rhI v4), (5, rhI v5), (6, rhI v6)] [rhI s1, rhI s0] Γ M := by
  intro M v0 v2 v4 v5 v6 s0 s1
  rw [f_X12_layState_146]
  refine rhF.isub (pc := 146) dX12_layState_146 ?_
  refine rhF.istore (pc := 147) (L' := [(7, rhI _), (0, rhR _), (2, rhI _), (4, rhI _), (5, rhI _), (6, rhI _)]) dX12_layState_147 (by decide) rfl ?_
  refine rhF.iinc (pc := 149) (L' := [(6, rhI _), (7, rhI _), (0, rhR _), (2, rhI _), (4, rhI _), (5, rhI _)]) dX12_layState_149 5 rfl rfl (by decide) rfl ?_
  refine rhF.goto (pc := 152) 112 dX12_layState_152 (by decide) ?_
  refine rhF.sub [2, 3, 4, 5, 0, 1] rfl ?_
  exact hk112 _ _ _ _ _ _ _
set_option maxHeartbeats 4000000 in
set_option maxRecDepth 100000 in
theorem b_X12_layState_128 {E : rhE} {Γ : rhG} {k112 : rhM → Nat → Int32 → Int32 → Int32 → Int32 → Int32 → Option (rhM)} (hk112 : ∀ (M : rhM) (v0 : Nat) (v2 : Int32) (v4 : Int32) (v5 : Int32) (v6 : Int32) (v7 : Int32), rhF E 5 8 yX12_layState cX12_layState none Γ (rhe1U Γ) (k112 M v0 v2 v4 v5 v6 v7) 112 [(0, rhR v0), (2, rhI v2), (4, rhI v4), (5, rhI v5), (6, rhI v6), (7, rhI v7)] [] Γ M) : ∀ (M : rhM) (v0 : Nat) (v2 : Int32) (v4 : Int32) (v5 : Int32) (v6 : Int32) (v7 : Int32), rhF E 5 8 yX12_layState cX12_layState none Γ (rhe1U Γ) (f_X12_layState_128 k112 Γ M v0 v2 v4 v5 v6 v7) 128 [(0, rhR v0), (2, rhI v2), (4, rhI v4), (5, rhI v5), (6, rhI v6), (7, rhI v7)] [] Γ M := by
  intro M v0 v2 v4 v5 v6 v7
  rw [f_X12_layState_128]
  refine rhF.iload (pc := 128) dX12_layState_128 5 rfl ?_
  refine rhF.iload (pc := 130) dX12_layState_130 2 rfl ?_
  refine rhF.iload (pc := 132) dX12_layState_132 4 rfl ?_
  refine rhF.ishr (pc := 134) dX12_layState_134 ?_
  refine rhF.iconst (pc := 135) (v := 1) dX12_layState_135 (by decide) ?_
  refine rhF.iand (pc := 136) dX12_layState_136 ?_
  refine rhF.iconst (pc := 137) (v := 1) dX12_layState_137 (by decide) ?_
  refine rhF.icmp_ne (pc := 138) 145 dX12_layState_138 (by decide) (fun h32 => ?_) (fun h32 => ?_)
  · refine rhF.iconst (pc := 141) (v := 0) dX12_layState_141 (by decide) ?_
    refine rhF.goto (pc := 142) 146 dX12_layState_142 (by decide) ?_
    refine rhF.sub [0, 1, 2, 3, 4] rfl ?_
    exact (b_X12_layState_146 hk112) _ _ _ _ _ _ _ _
  · refine rhF.iconst (pc := 145) (v := 1) dX12_layState_145 (by decide) ?_
    refine rhF.sub [0, 1, 2, 3, 4] rfl ?_
    exact (b_X12_layState_146 hk112) _ _ _ _ _ _ _ _
set_option maxHeartbeats 4000000 in
set_option maxRecDepth 100000 in
theorem b_X12_layState_112 {E : rhE} {Γ : rhG} {k155 : rhM → Nat → Int32 → Int32 → Int32 → Int32 → Option (rhM)} (hk155 : ∀ (M : rhM) (v0 : Nat) (v2 : Int32) (v4 : Int32) (v5 : Int32) (v6 : Int32), rhF E 5 8 yX12_layState cX12_layState none Γ (rhe1U Γ) (k155 M v0 v2 v4 v5 v6) 155 [(0, rhR v0), (2, rhI v2), (4, rhI v4), (5, rhI v5), (6, rhI v6)] [] Γ M) : ∀ (n : Nat) (M : rhM) (v0 : Nat) (v2 : Int32) (v4 : Int32) (v5 : Int32) (v6 : Int32) (v7 : Int32), rhF E 5 8 yX12_layState cX12_layState none Γ (rhe1U Γ) (f_X12_layState_112 k155 Γ n M v0 v2 v4 v5 v6 v7) 112 [(0, rhR v0), (2, rhI v2), (4, rhI v4), (5, rhI v5), (6, rhI v6), (7, rhI v7)] [] Γ M := by
  intro n
  induction n with
  | zero => intro M v0 v2 v4 v5 v6 v7; rw [f_X12_layState_112]; exact rhF.nope
  | succ n ih =>
    intro M v0 v2 v4 v5 v6 v7
    rw [f_X12_layState_112]
    refine rhF.iload (pc := 112) dX12_layState_112 2 rfl ?_
    refine rhF.iload (pc := 114) dX12_layState_114 4 rfl ?_
    refine rhF.ishr (pc := 116) dX12_layState_116 ?_
    refine rhF.iconst (pc := 117) (v := 1) dX12_layState_117 (by decide) ?_
    refine rhF.iand (pc := 118) dX12_layState_118 ?_
    refine rhF.iconst (pc := 119) (v := 1) dX12_layState_119 (by decide) ?_
    refine rhF.icmp_eq (pc := 120) 128 dX12_layState_120 (by decide) (fun h31 => ?_) (fun h31 => ?_)
    · exact (b_X12_layState_128 ih) _ _ _ _ _ _ _
    · refine rhF.iload (pc := 123) dX12_layState_123 5 rfl ?_
      refine rhF.if_le (pc := 125) 155 dX12_layState_125 (by decide) (fun h35 => ?_) (fun h35 => ?_)
      · exact (b_X12_layState_128 ih) _ _ _ _ _ _ _
      · refine rhF.sub [0, 1, 2, 3, 4] rfl ?_
        exact hk155 _ _ _ _ _ _
set_option maxHeartbeats 4000000 in
set_option maxRecDepth 100000 in
theorem b_X12_layState_155 {E : rhE} {Γ : rhG} {k94 : rhM → Nat → Int32 → Int32 → Int32 → Option (rhM)} (hk94 : ∀ (M : rhM) (v0 : Nat) (v2 : Int32) (v4 : Int32) (v5 : Int32), rhF E 5 8 yX12_layState cX12_layState none Γ (rhe1U Γ) (k94 M v0 v2 v4 v5) 94 [(0, rhR v0), (2, rhI v2), (4, rhI v4), (5, rhI v5)] [] Γ M) : ∀ (M : rhM) (v0 : Nat) (v2 : Int32) (v4 : Int32) (v5 : Int32) (v6 : Int32), rhF E 5 8 yX12_layState cX12_layState none Γ (rhe1U Γ) (f_X12_layState_155 k94 Γ M v0 v2 v4 v5 v6) 155 [(0, rhR v0), (2, rhI v2), (4, rhI v4), (5, rhI v5), (6, rhI v6)] [] Γ M := by
  intro M v0 v2 v4 v5 v6
  rw [f_X12_layState_155]
  refine rhF.aload_n (pc := 155) dX12_layState_155 0 rfl ?_
  refine rhF.ck (fun h36 => ?_)
  refine rhF.get (pc := 156) (rhR _) dX12_layState_156 fl_X12_92 h36 rfl ?_
  refine rhF.iload (pc := 159) dX12_layState_159 3 rfl ?_
  refine rhF.iload (pc := 161) dX12_layState_161 4 rfl ?_
  refine rhF.ck (fun h37 => ?_)
  refine rhF.ck (fun h38 => ?_)
  refine rhF.iast (pc := 163) dX12_layState_163 h37 h38 ?_
  refine rhF.iload (pc := 164) dX12_layState_164 2 rfl ?_
  refine rhF.iconst (pc := 166) (v := 1) dX12_layState_166 (by decide) ?_
  refine rhF.iload (pc := 167) dX12_layState_167 4 rfl ?_
  refine rhF.ishl (pc := 169) dX12_layState_169 ?_
  refine rhF.ior (pc := 170) dX12_layState_170 ?_
  refine rhF.istore (pc := 171) (L' := [(4, rhI _), (0, rhR _), (2, rhI _), (5, rhI _), (6, rhI _)]) dX12_layState_171 (by decide) rfl ?_
  refine rhF.iinc (pc := 173) (L' := [(5, rhI _), (4, rhI _), (0, rhR _), (2, rhI _), (6, rhI _)]) dX12_layState_173 3 rfl rfl (by decide) rfl ?_
  refine rhF.goto (pc := 176) 94 dX12_layState_176 (by decide) ?_
  refine rhF.sub [2, 3, 1, 0] rfl ?_
  exact hk94 _ _ _ _ _
set_option maxHeartbeats 4000000 in
set_option maxRecDepth 100000 in
theorem b_X12_layState_94 {E : rhE} {Γ : rhG} : ∀ (n : Nat) (M : rhM) (v0 : Nat) (v2 : Int32) (v4 : Int32) (v5 : Int32), rhF E 5 8 yX12_layState cX12_layState none Γ (rhe1U Γ) (f_X12_layState_94 Γ n M v0 v2 v4 v5) 94 [(0, rhR v0), (2, rhI v2), (4, rhI v4), (5, rhI v5)] [] Γ M := by
  intro n
  induction n with
  | zero => intro M v0 v2 v4 v5; rw [f_X12_layState_94]; exact rhF.nope
  | succ n ih =>
    intro M v0 v2 v4 v5
    rw [f_X12_layState_94]
    refine rhF.iload (pc := 94) dX12_layState_94 3 rfl ?_
    refine rhF.iload_n (pc := 96) dX12_layState_96 1 rfl ?_
    refine rhF.icmp_ge (pc := 97) 179 dX12_layState_97 (by decide) (fun h26 => ?_) (fun h26 => ?_)
    · refine rhF.iconst (pc := 100) (v := 0) dX12_layState_100 (by decide) ?_
      refine rhF.istore (pc := 101) (L' := [(6, rhI _), (0, rhR _), (2, rhI _), (4, rhI _), (5, rhI _)]) dX12_layState_101 (by decide) rfl ?_
      refine rhF.aload_n (pc := 103) dX12_layState_103 1 rfl ?_
      refine rhF.ck (fun h27 => ?_)
      refine rhF.get (pc := 104) (rhR _) dX12_layState_104 fl_X12_98 h27 rfl ?_
      refine rhF.iload (pc := 107) dX12_layState_107 4 rfl ?_
      refine rhF.ck (fun h28 => ?_)
      refine rhF.ck (fun h29 => ?_)
      refine rhF.iald (pc := 109) dX12_layState_109 h28 h29 ?_
      refine rhF.istore (pc := 110) (L' := [(7, rhI _), (6, rhI _), (0, rhR _), (2, rhI _), (4, rhI _), (5, rhI _)]) dX12_layState_110 (by decide) rfl ?_
      refine rhF.sub [2, 3, 4, 5, 1, 0] rfl ?_
      exact (b_X12_layState_112 (b_X12_layState_155 ih) rhFU) _ _ _ _ _ _ _
    · exact rhF.vret (pc := 179) dX12_layState_179 rfl rfl
set_option maxHeartbeats 4000000 in
set_option maxRecDepth 100000 in
theorem b_X12_layState_91 {E : rhE} {Γ : rhG} : ∀ (M : rhM) (v0 : Nat) (v2 : Int32) (v4 : Int32), rhF E 5 8 yX12_layState cX12_layState none Γ (rhe1U Γ) (f_X12_layState_91 Γ M v0 v2 v4) 91 [(0, rhR v0), (2, rhI v2), (4, rhI v4)] [] Γ M := by
  intro M v0 v2 v4
  rw [f_X12_layState_91]
  refine rhF.iconst (pc := 91) (v := 0) dX12_layState_91 (by decide) ?_
  refine rhF.istore (pc := 92) (L' := [(5, rhI _), (0, rhR _), (2, rhI _), (4, rhI _)]) dX12_layState_92 (by decide) rfl ?_
  refine rhF.sub [1, 2, 3, 0] rfl ?_
  exact (b_X12_layState_94 rhFU) _ _ _ _ _
set_option maxHeartbeats 4000000 in
set_option maxRecDepth 100000 in
theorem b_X12_layState_52 {E : rhE} {Γ : rhG} : ∀ (M : rhM) (v0 : Nat) (v2 : Int32) (v3 : Int32), rhF E 5 8 yX12_layState cX12_layState none Γ (rhe1U Γ) (f_X12_layState_52 Γ M v0 v2 v3) 52 [(0, rhR v0), (2, rhI v2), (3, rhI v3)] [] Γ M := by
  intro M v0 v2 v3
  rw [f_X12_layState_52]
  refine rhF.iconst (pc := 52) (v := 0) dX12_layState_52 (by decide) ?_
  refine rhF.istore (pc := 53) (L' := [(4, rhI _), (0, rhR _), (2, rhI _), (3, rhI _)]) dX12_layState_53 (by decide) rfl ?_
  refine rhF.iload_n (pc := 55) dX12_layState_55 2 rfl ?_
  refine rhF.iconst (pc := 56) (v := 1) dX12_layState_56 (by decide) ?_
  refine rhF.isub (pc := 57) dX12_layState_57 ?_
  refine rhF.istore (pc := 58) (L' := [(5, rhI _), (4, rhI _), (0, rhR _), (2, rhI _), (3, rhI _)]) dX12_layState_58 (by decide) rfl ?_
  refine rhF.sub [2, 3, 4, 1, 0] rfl ?_
  exact (b_X12_layState_60 (b_X12_layState_91) rhFU) _ _ _ _ _ _
set_option maxHeartbeats 4000000 in
set_option maxRecDepth 100000 in
theorem b_X12_layState_37 {E : rhE} {Γ : rhG} : ∀ (M : rhM) (v0 : Nat) (v2 : Int32) (v3 : Int32), rhF E 5 8 yX12_layState cX12_layState none Γ (rhe1U Γ) (f_X12_layState_37 Γ M v0 v2 v3) 37 [(0, rhR v0), (2, rhI v2), (3, rhI v3)] [] Γ M := by
  intro M v0 v2 v3
  rw [f_X12_layState_37]
  refine rhF.aload_n (pc := 37) dX12_layState_37 0 rfl ?_
  refine rhF.ck (fun h10 => ?_)
  refine rhF.callV (pc := 38) (ci := 12) (embc := rhe0I _ _) [] dX12_layState_38 ml_X12_412 mv_X12_railMany ⟨_, rfl, rfl⟩ h10 (c_X12_railMany _ _ _ _) (by decide) (by decide) rfl (Nat.le_of_ble_eq_true rfl) (fun r11 _ => ?_)
  refine rhF.iconst (pc := 41) (v := 3) dX12_layState_41 (by decide) ?_
  refine rhF.icmp_le (pc := 42) 52 dX12_layState_42 (by decide) (fun h12 => ?_) (fun h12 => ?_)
  · refine rhF.aload_n (pc := 45) dX12_layState_45 0 rfl ?_
    refine rhF.get (pc := 46) (rhR _) dX12_layState_46 fl_X12_95 h10 rfl ?_
    refine rhF.iconst (pc := 49) (v := 3) dX12_layState_49 (by decide) ?_
    refine rhF.iload_n (pc := 50) dX12_layState_50 1 rfl ?_
    refine rhF.ck (fun h13 => ?_)
    refine rhF.ck (fun h14 => ?_)
    refine rhF.iast (pc := 51) dX12_layState_51 h13 h14 ?_
    exact (b_X12_layState_52) _ _ _ _
  · exact (b_X12_layState_52) _ _ _ _
set_option maxHeartbeats 4000000 in
set_option maxRecDepth 100000 in
theorem b_X12_layState {E : rhE} {Γ : rhG} : ∀ (M : rhM) (v0 : Nat) (v1 : Int32), rhF E 5 8 yX12_layState cX12_layState none Γ (rhe1U Γ) (f_X12_layState Γ M v0 v1) 0 [(0, rhR v0), (1, rhI v1)] [] Γ M := by
  intro M v0 v1
  rw [f_X12_layState]
  refine rhF.aload_n (pc := 0) dX12_layState_0 0 rfl ?_
  refine rhF.ck (fun h1 => ?_)
  refine rhF.callV (pc := 1) (ci := 12) (embc := rhe0I _ _) [] dX12_layState_1 ml_X12_419 mv_X12_houseMany ⟨_, rfl, rfl⟩ h1 (c_X12_houseMany _ _ _ _) (by decide) (by decide) rfl (Nat.le_of_ble_eq_true rfl) (fun r2 _ => ?_)
  refine rhF.istore_n (pc := 4) (L' := [(2, rhI _), (0, rhR _), (1, rhI _)]) dX12_layState_4 (by decide) rfl ?_
  refine rhF.iload_n (pc := 5) dX12_layState_5 2 rfl ?_
  refine rhF.istore_n (pc := 6) (L' := [(3, rhI _), (2, rhI _), (0, rhR _), (1, rhI _)]) dX12_layState_6 (by decide) rfl ?_
  refine rhF.iconst (pc := 7) (v := 2) dX12_layState_7 (by decide) ?_
  refine rhF.istore (pc := 8) (L' := [(4, rhI _), (3, rhI _), (2, rhI _), (0, rhR _), (1, rhI _)]) dX12_layState_8 (by decide) rfl ?_
  refine rhF.sub [3, 2, 1, 0] rfl ?_
  exact (b_X12_layState_10 (b_X12_layState_37) rhFU) _ _ _ _ _
theorem c_X12_layState (E : rhE) (Γ : rhG) (M : rhM) (v0 : Nat) (v1 : Int32) : ∀ a, f_X12_layState Γ M v0 v1 = some a → rhC E 5 yX12_layState cX12_layState 8 none [rhR v0, rhI v1] Γ M ((rhe1U Γ) a) := rhF.met (by decide +kernel) (Nat.le_of_ble_eq_true rfl) (b_X12_layState M v0 v1)
def f_X12_keepAt_2 (k26 : rhM → Nat → Option (rhM)) (Γ : rhG) : Nat → rhM → Nat → Int32 → Option (rhM)
  | 0, _, _, _ => none
  | n + 1, M, v0, v1 =>
    if v1 < 8 then
      (rhck (Γ.2.2.1 v0 = 13) <|
      rhck (Γ.2.2.1 (M.2.2 v0 39) = 15) <|
      rhck (0 ≤ (v1).toInt ∧ (v1).toInt < (Γ.2.2.2 (M.2.2 v0 39) : Nat)) <|
      rhck (Γ.2.2.1 (M.2.2 v0 63) = 15) <|
      rhck (0 ≤ (v1).toInt ∧ (v1).toInt < (Γ.2.2.2 (M.2.2 v0 63) : Nat)) <|
      let M7 := rhsi M (M.2.2 v0 63) (v1 : Int32).toNatClampNeg (M.1 (M.2.2 v0 39) v1.toNatClampNeg)
      let x8 : Int32 := v1 + 1
      f_X12_keepAt_2 k26 Γ n M7 v0 x8)
    else
      k26 M v0
def f_X12_keepAt_28 (Γ : rhG) : Nat → rhM → Nat → Int32 → Option (rhM)
  | 0, _, _, _ => none
  | n + 1, M, v0, v1 =>
    if v1 < 5 then
      (rhck (Γ.2.2.1 v0 = 13) <|
      rhck (Γ.2.2.1 (M.2.2 v0 40) = 15) <|
      rhck (0 ≤ (v1).toInt ∧ (v1).toInt < (Γ.2.2.2 (M.2.2 v0 40) : Nat)) <|
      rhck (Γ.2.2.1 (M.2.2 v0 64) = 15) <|
      rhck (0 ≤ (v1).toInt ∧ (v1).toInt < (Γ.2.2.2 (M.2.2 v0 64) : Nat)) <|
      let M15 := rhsi M (M.2.2 v0 64) (v1 : Int32).toNatClampNeg (M.1 (M.2.2 v0 40) v1.toNatClampNeg)
      let x16 : Int32 := v1 + 1
      f_X12_keepAt_28 Γ n M15 v0 x16)
    else
      some M
def f_X12_keepAt_26 (Γ : rhG) (M : rhM) (v0 : Nat) : Option (rhM) :=
  f_X12_keepAt_28 Γ rhFU M v0 0
def f_X12_keepAt (Γ : rhG) (M : rhM) (v0 : Nat) : Option (rhM) :=
  f_X12_keepAt_2 (f_X12_keepAt_26 Γ) Γ rhFU M v0 0
set_option maxHeartbeats 4000000 in
set_option maxRecDepth 100000 in
theorem b_X12_keepAt_2 {E : rhE} {Γ : rhG} {k26 : rhM → Nat → Option (rhM)} (hk26 : ∀ (M : rhM) (v0 : Nat), rhF E 1 2 yX12_keepAt cX12_keepAt none Γ (rhe1U Γ) (k26 M v0) 26 [(0, rhR v0)] [] Γ M) : ∀ (n : Nat) (M : rhM) (v0 : Nat) (v1 : Int32), rhF E 1 2 yX12_keepAt cX12_keepAt none Γ (rhe1U Γ) (f_X12_keepAt_2 k26 Γ n M v0 v1) 2 [(0, rhR v0), (1, rhI v1)] [] Γ M := by
  intro n
  induction n with
  | zero => intro M v0 v1; rw [f_X12_keepAt_2]; exact rhF.nope
  | succ n ih =>
    intro M v0 v1
    rw [f_X12_keepAt_2]
    refine rhF.iload_n (pc := 2) dX12_keepAt_2 1 rfl ?_
    refine rhF.bipush (pc := 3) (v := 8) dX12_keepAt_3 (by decide) ?_
    refine rhF.icmp_ge (pc := 5) 26 dX12_keepAt_5 (by decide) (fun h1 => ?_) (fun h1 => ?_)
    · refine rhF.aload_n (pc := 8) dX12_keepAt_8 0 rfl ?_
      refine rhF.ck (fun h2 => ?_)
      refine rhF.get (pc := 9) (rhR _) dX12_keepAt_9 fl_X12_142 h2 rfl ?_
      refine rhF.iload_n (pc := 12) dX12_keepAt_12 1 rfl ?_
      refine rhF.aload_n (pc := 13) dX12_keepAt_13 0 rfl ?_
      refine rhF.get (pc := 14) (rhR _) dX12_keepAt_14 fl_X12_92 h2 rfl ?_
      refine rhF.iload_n (pc := 17) dX12_keepAt_17 1 rfl ?_
      refine rhF.ck (fun h3 => ?_)
      refine rhF.ck (fun h4 => ?_)
      refine rhF.iald (pc := 18) dX12_keepAt_18 h3 h4 ?_
      refine rhF.ck (fun h5 => ?_)
      refine rhF.ck (fun h6 => ?_)
      refine rhF.iast (pc := 19) dX12_keepAt_19 h5 h6 ?_
      refine rhF.iinc (pc := 20) (L' := [(1, rhI _), (0, rhR _)]) dX12_keepAt_20 1 rfl rfl (by decide) rfl ?_
      refine rhF.goto (pc := 23) 2 dX12_keepAt_23 (by decide) ?_
      refine rhF.sub [1, 0] rfl ?_
      exact ih _ _ _
    · refine rhF.sub [0] rfl ?_
      exact hk26 _ _
set_option maxHeartbeats 4000000 in
set_option maxRecDepth 100000 in
theorem b_X12_keepAt_28 {E : rhE} {Γ : rhG} : ∀ (n : Nat) (M : rhM) (v0 : Nat) (v1 : Int32), rhF E 1 2 yX12_keepAt cX12_keepAt none Γ (rhe1U Γ) (f_X12_keepAt_28 Γ n M v0 v1) 28 [(0, rhR v0), (1, rhI v1)] [] Γ M := by
  intro n
  induction n with
  | zero => intro M v0 v1; rw [f_X12_keepAt_28]; exact rhF.nope
  | succ n ih =>
    intro M v0 v1
    rw [f_X12_keepAt_28]
    refine rhF.iload_n (pc := 28) dX12_keepAt_28 1 rfl ?_
    refine rhF.iconst (pc := 29) (v := 5) dX12_keepAt_29 (by decide) ?_
    refine rhF.icmp_ge (pc := 30) 51 dX12_keepAt_30 (by decide) (fun h9 => ?_) (fun h9 => ?_)
    · refine rhF.aload_n (pc := 33) dX12_keepAt_33 0 rfl ?_
      refine rhF.ck (fun h10 => ?_)
      refine rhF.get (pc := 34) (rhR _) dX12_keepAt_34 fl_X12_145 h10 rfl ?_
      refine rhF.iload_n (pc := 37) dX12_keepAt_37 1 rfl ?_
      refine rhF.aload_n (pc := 38) dX12_keepAt_38 0 rfl ?_
      refine rhF.get (pc := 39) (rhR _) dX12_keepAt_39 fl_X12_95 h10 rfl ?_
      refine rhF.iload_n (pc := 42) dX12_keepAt_42 1 rfl ?_
      refine rhF.ck (fun h11 => ?_)
      refine rhF.ck (fun h12 => ?_)
      refine rhF.iald (pc := 43) dX12_keepAt_43 h11 h12 ?_
      refine rhF.ck (fun h13 => ?_)
      refine rhF.ck (fun h14 => ?_)
      refine rhF.iast (pc := 44) dX12_keepAt_44 h13 h14 ?_
      refine rhF.iinc (pc := 45) (L' := [(1, rhI _), (0, rhR _)]) dX12_keepAt_45 1 rfl rfl (by decide) rfl ?_
      refine rhF.goto (pc := 48) 28 dX12_keepAt_48 (by decide) ?_
      refine rhF.sub [1, 0] rfl ?_
      exact ih _ _ _
    · exact rhF.vret (pc := 51) dX12_keepAt_51 rfl rfl
set_option maxHeartbeats 4000000 in
set_option maxRecDepth 100000 in
theorem b_X12_keepAt_26 {E : rhE} {Γ : rhG} : ∀ (M : rhM) (v0 : Nat), rhF E 1 2 yX12_keepAt cX12_keepAt none Γ (rhe1U Γ) (f_X12_keepAt_26 Γ M v0) 26 [(0, rhR v0)] [] Γ M := by
  intro M v0
  rw [f_X12_keepAt_26]
  refine rhF.iconst (pc := 26) (v := 0) dX12_keepAt_26 (by decide) ?_
  refine rhF.istore_n (pc := 27) (L' := [(1, rhI _), (0, rhR _)]) dX12_keepAt_27 (by decide) rfl ?_
  refine rhF.sub [1, 0] rfl ?_
  exact (b_X12_keepAt_28 rhFU) _ _ _
set_option maxHeartbeats 4000000 in
set_option maxRecDepth 100000 in
theorem b_X12_keepAt {E : rhE} {Γ : rhG} : ∀ (M : rhM) (v0 : Nat), rhF E 1 2 yX12_keepAt cX12_keepAt none Γ (rhe1U Γ) (f_X12_keepAt Γ M v0) 0 [(0, rhR v0)] [] Γ M := by
  intro M v0
  rw [f_X12_keepAt]
  refine rhF.iconst (pc := 0) (v := 0) dX12_keepAt_0 (by decide) ?_
  refine rhF.istore_n (pc := 1) (L' := [(1, rhI _), (0, rhR _)]) dX12_keepAt_1 (by decide) rfl ?_
  refine rhF.sub [1, 0] rfl ?_
  exact (b_X12_keepAt_2 (b_X12_keepAt_26) rhFU) _ _ _
theorem c_X12_keepAt (E : rhE) (Γ : rhG) (M : rhM) (v0 : Nat) : ∀ a, f_X12_keepAt Γ M v0 = some a → rhC E 1 yX12_keepAt cX12_keepAt 2 none [rhR v0] Γ M ((rhe1U Γ) a) := rhF.met (by decide +kernel) (Nat.le_of_ble_eq_true rfl) (b_X12_keepAt M v0)
def f_X12_layAt_2 (k26 : rhM → Nat → Option (rhM)) (Γ : rhG) : Nat → rhM → Nat → Int32 → Option (rhM)
  | 0, _, _, _ => none
  | n + 1, M, v0, v1 =>
    if v1 < 8 then
      (rhck (Γ.2.2.1 v0 = 13) <|
      rhck (Γ.2.2.1 (M.2.2 v0 63) = 15) <|
      rhck (0 ≤ (v1).toInt ∧ (v1).toInt < (Γ.2.2.2 (M.2.2 v0 63) : Nat)) <|
      rhck (Γ.2.2.1 (M.2.2 v0 39) = 15) <|
      rhck (0 ≤ (v1).toInt ∧ (v1).toInt < (Γ.2.2.2 (M.2.2 v0 39) : Nat)) <|
      let M7 := rhsi M (M.2.2 v0 39) (v1 : Int32).toNatClampNeg (M.1 (M.2.2 v0 63) v1.toNatClampNeg)
      let x8 : Int32 := v1 + 1
      f_X12_layAt_2 k26 Γ n M7 v0 x8)
    else
      k26 M v0
def f_X12_layAt_28 (Γ : rhG) : Nat → rhM → Nat → Int32 → Option (rhM)
  | 0, _, _, _ => none
  | n + 1, M, v0, v1 =>
    if v1 < 5 then
      (rhck (Γ.2.2.1 v0 = 13) <|
      rhck (Γ.2.2.1 (M.2.2 v0 64) = 15) <|
      rhck (0 ≤ (v1).toInt ∧ (v1).toInt < (Γ.2.2.2 (M.2.2 v0 64) : Nat)) <|
      rhck (Γ.2.2.1 (M.2.2 v0 40) = 15) <|
      rhck (0 ≤ (v1).toInt ∧ (v1).toInt < (Γ.2.2.2 (M.2.2 v0 40) : Nat)) <|
      let M15 := rhsi M (M.2.2 v0 40) (v1 : Int32).toNatClampNeg (M.1 (M.2.2 v0 64) v1.toNatClampNeg)
      let x16 : Int32 := v1 + 1
      f_X12_layAt_28 Γ n M15 v0 x16)
    else
      some M
def f_X12_layAt_26 (Γ : rhG) (M : rhM) (v0 : Nat) : Option (rhM) :=
  f_X12_layAt_28 Γ rhFU M v0 0
def f_X12_layAt (Γ : rhG) (M : rhM) (v0 : Nat) : Option (rhM) :=
  f_X12_layAt_2 (f_X12_layAt_26 Γ) Γ rhFU M v0 0
set_option maxHeartbeats 4000000 in
set_option maxRecDepth 100000 in
theorem b_X12_layAt_2 {E : rhE} {Γ : rhG} {k26 : rhM → Nat → Option (rhM)} (hk26 : ∀ (M : rhM) (v0 : Nat), rhF E 1 2 yX12_layAt cX12_layAt none Γ (rhe1U Γ) (k26 M v0) 26 [(0, rhR v0)] [] Γ M) : ∀ (n : Nat) (M : rhM) (v0 : Nat) (v1 : Int32), rhF E 1 2 yX12_layAt cX12_layAt none Γ (rhe1U Γ) (f_X12_layAt_2 k26 Γ n M v0 v1) 2 [(0, rhR v0), (1, rhI v1)] [] Γ M := by
  intro n
  induction n with
  | zero => intro M v0 v1; rw [f_X12_layAt_2]; exact rhF.nope
  | succ n ih =>
    intro M v0 v1
    rw [f_X12_layAt_2]
    refine rhF.iload_n (pc := 2) dX12_layAt_2 1 rfl ?_
    refine rhF.bipush (pc := 3) (v := 8) dX12_layAt_3 (by decide) ?_
    refine rhF.icmp_ge (pc := 5) 26 dX12_layAt_5 (by decide) (fun h1 => ?_) (fun h1 => ?_)
    · refine rhF.aload_n (pc := 8) dX12_layAt_8 0 rfl ?_
      refine rhF.ck (fun h2 => ?_)
      refine rhF.get (pc := 9) (rhR _) dX12_layAt_9 fl_X12_92 h2 rfl ?_
      refine rhF.iload_n (pc := 12) dX12_layAt_12 1 rfl ?_
      refine rhF.aload_n (pc := 13) dX12_layAt_13 0 rfl ?_
      refine rhF.get (pc := 14) (rhR _) dX12_layAt_14 fl_X12_142 h2 rfl ?_
      refine rhF.iload_n (pc := 17) dX12_layAt_17 1 rfl ?_
      refine rhF.ck (fun h3 => ?_)
      refine rhF.ck (fun h4 => ?_)
      refine rhF.iald (pc := 18) dX12_layAt_18 h3 h4 ?_
      refine rhF.ck (fun h5 => ?_)
      refine rhF.ck (fun h6 => ?_)
      refine rhF.iast (pc := 19) dX12_layAt_19 h5 h6 ?_
      refine rhF.iinc (pc := 20) (L' := [(1, rhI _), (0, rhR _)]) dX12_layAt_20 1 rfl rfl (by decide) rfl ?_
      refine rhF.goto (pc := 23) 2 dX12_layAt_23 (by decide) ?_
      refine rhF.sub [1, 0] rfl ?_
      exact ih _ _ _
    · refine rhF.sub [0] rfl ?_
      exact hk26 _ _
set_option maxHeartbeats 4000000 in
set_option maxRecDepth 100000 in
theorem b_X12_layAt_28 {E : rhE} {Γ : rhG} : ∀ (n : Nat) (M : rhM) (v0 : Nat) (v1 : Int32), rhF E 1 2 yX12_layAt cX12_layAt none Γ (rhe1U Γ) (f_X12_layAt_28 Γ n M v0 v1) 28 [(0, rhR v0), (1, rhI v1)] [] Γ M := by
  intro n
  induction n with
  | zero => intro M v0 v1; rw [f_X12_layAt_28]; exact rhF.nope
  | succ n ih =>
    intro M v0 v1
    rw [f_X12_layAt_28]
    refine rhF.iload_n (pc := 28) dX12_layAt_28 1 rfl ?_
    refine rhF.iconst (pc := 29) (v := 5) dX12_layAt_29 (by decide) ?_
    refine rhF.icmp_ge (pc := 30) 51 dX12_layAt_30 (by decide) (fun h9 => ?_) (fun h9 => ?_)
    · refine rhF.aload_n (pc := 33) dX12_layAt_33 0 rfl ?_
      refine rhF.ck (fun h10 => ?_)
      refine rhF.get (pc := 34) (rhR _) dX12_layAt_34 fl_X12_95 h10 rfl ?_
      refine rhF.iload_n (pc := 37) dX12_layAt_37 1 rfl ?_
      refine rhF.aload_n (pc := 38) dX12_layAt_38 0 rfl ?_
      refine rhF.get (pc := 39) (rhR _) dX12_layAt_39 fl_X12_145 h10 rfl ?_
      refine rhF.iload_n (pc := 42) dX12_layAt_42 1 rfl ?_
      refine rhF.ck (fun h11 => ?_)
      refine rhF.ck (fun h12 => ?_)
      refine rhF.iald (pc := 43) dX12_layAt_43 h11 h12 ?_
      refine rhF.ck (fun h13 => ?_)
      refine rhF.ck (fun h14 => ?_)
      refine rhF.iast (pc := 44) dX12_layAt_44 h13 h14 ?_
      refine rhF.iinc (pc := 45) (L' := [(1, rhI _), (0, rhR _)]) dX12_layAt_45 1 rfl rfl (by decide) rfl ?_
      refine rhF.goto (pc := 48) 28 dX12_layAt_48 (by decide) ?_
      refine rhF.sub [1, 0] rfl ?_
      exact ih _ _ _
    · exact rhF.vret (pc := 51) dX12_layAt_51 rfl rfl
set_option maxHeartbeats 4000000 in
set_option maxRecDepth 100000 in
theorem b_X12_layAt_26 {E : rhE} {Γ : rhG} : ∀ (M : rhM) (v0 : Nat), rhF E 1 2 yX12_layAt cX12_layAt none Γ (rhe1U Γ) (f_X12_layAt_26 Γ M v0) 26 [(0, rhR v0)] [] Γ M := by
  intro M v0
  rw [f_X12_layAt_26]
  refine rhF.iconst (pc := 26) (v := 0) dX12_layAt_26 (by decide) ?_
  refine rhF.istore_n (pc := 27) (L' := [(1, rhI _), (0, rhR _)]) dX12_layAt_27 (by decide) rfl ?_
  refine rhF.sub [1, 0] rfl ?_
  exact (b_X12_layAt_28 rhFU) _ _ _
set_option maxHeartbeats 4000000 in
set_option maxRecDepth 100000 in
theorem b_X12_layAt {E : rhE} {Γ : rhG} : ∀ (M : rhM) (v0 : Nat), rhF E 1 2 yX12_layAt cX12_layAt none Γ (rhe1U Γ) (f_X12_layAt Γ M v0) 0 [(0, rhR v0)] [] Γ M := by
  intro M v0
  rw [f_X12_layAt]
  refine rhF.iconst (pc := 0) (v := 0) dX12_layAt_0 (by decide) ?_
  refine rhF.istore_n (pc := 1) (L' := [(1, rhI _), (0, rhR _)]) dX12_layAt_1 (by decide) rfl ?_
  refine rhF.sub [1, 0] rfl ?_
  exact (b_X12_layAt_2 (b_X12_layAt_26) rhFU) _ _ _
theorem c_X12_layAt (E : rhE) (Γ : rhG) (M : rhM) (v0 : Nat) : ∀ a, f_X12_layAt Γ M v0 = some a → rhC E 1 yX12_layAt cX12_layAt 2 none [rhR v0] Γ M ((rhe1U Γ) a) := rhF.met (by decide +kernel) (Nat.le_of_ble_eq_true rfl) (b_X12_layAt M v0)
def f_X12_spread_163 (k46 : rhM → Nat → Int32 → Int32 → Int32 → Int32 → Option (rhM)) (Γ : rhG) (M : rhM) (v0 : Nat) (v1 : Int32) (v2 : Int32) (v3 : Int32) (v4 : Int32) : Option (rhM) :=
  let x17 : Int32 := v4 + 1
  k46 M v0 v1 v2 v3 x17
def f_X12_spread_46 (k169 : rhM → Nat → Int32 → Int32 → Int32 → Option (rhM)) (Γ : rhG) : Nat → rhM → Nat → Int32 → Int32 → Int32 → Int32 → Option (rhM)
  | 0, _, _, _, _, _, _ => none
  | n + 1, M, v0, v1, v2, v3, v4 =>
    rhck (Γ.2.2.1 v0 = 13) <|
    (f_X12_railMany Γ M v0).bind fun r12 =>
    if v4 < r12 then
      ((f_X12_layAt Γ M v0).bind fun r14 =>
      (f_X12_isLawful Γ r14 v0 v2 v3 v4).bind fun r15 =>
      if r15.1 = 0 then
        (f_X12_spread_163 (f_X12_spread_46 k169 Γ n) Γ r15.2 v0 v1 v2 v3 v4)
      else
        (f_X12_moves Γ r15.2 v0 v2 v3 v4).bind fun r18 =>
        (f_X12_stateOf Γ r18 v0).bind fun r19 =>
        rhck (Γ.2.2.1 (r18.2.2 v0 56) = 15) <|
        rhck (0 ≤ (r19).toInt ∧ (r19).toInt < (Γ.2.2.2 (r18.2.2 v0 56) : Nat)) <|
        if (r18.1 (r18.2.2 v0 56) r19.toNatClampNeg) < 0 then
          (rhck (0 ≤ (v1).toInt ∧ (v1).toInt < (Γ.2.2.2 (r18.2.2 v0 56) : Nat)) <|
          let M24 := rhsi r18 (r18.2.2 v0 56) (r19 : Int32).toNatClampNeg ((r18.1 (r18.2.2 v0 56) v1.toNatClampNeg) + 1)
          rhck (Γ.2.2.1 (r18.2.2 v0 55) = 15) <|
          rhck (0 ≤ (r19).toInt ∧ (r19).toInt < (Γ.2.2.2 (r18.2.2 v0 55) : Nat)) <|
          let M27 := rhsi M24 (r18.2.2 v0 55) (r19 : Int32).toNatClampNeg v1
          rhck (Γ.2.2.1 (r18.2.2 v0 54) = 15) <|
          rhck (0 ≤ (r19).toInt ∧ (r19).toInt < (Γ.2.2.2 (r18.2.2 v0 54) : Nat)) <|
          let M30 := rhsi M27 (r18.2.2 v0 54) (r19 : Int32).toNatClampNeg (((100 * v2) + (10 * v3)) + v4)
          rhck (Γ.2.2.1 (r18.2.2 v0 58) = 15) <|
          rhck (0 ≤ (M30.1 v0 60).toInt ∧ (M30.1 v0 60).toInt < (Γ.2.2.2 (r18.2.2 v0 58) : Nat)) <|
          let M33 := rhsi M30 (r18.2.2 v0 58) (M30.1 v0 60 : Int32).toNatClampNeg r19
          let M34 := rhsi M33 v0 60 ((M33.1 v0 60) + 1)
          f_X12_spread_163 (f_X12_spread_46 k169 Γ n) Γ M34 v0 v1 v2 v3 v4)
        else
          f_X12_spread_163 (f_X12_spread_46 k169 Γ n) Γ r18 v0 v1 v2 v3 v4)
    else
      k169 M v0 v1 v2 v3
def f_X12_spread_169 (k16 : rhM → Nat → Int32 → Int32 → Int32 → Option (rhM)) (Γ : rhG) (M : rhM) (v0 : Nat) (v1 : Int32) (v2 : Int32) (v3 : Int32) : Option (rhM) :=
  let x35 : Int32 := v3 + 1
  k16 M v0 v1 v2 x35
def f_X12_spread_39 (k16 : rhM → Nat → Int32 → Int32 → Int32 → Option (rhM)) (k175 : rhM → Nat → Int32 → Int32 → Option (rhM)) (Γ : rhG) (M : rhM) (v0 : Nat) (v1 : Int32) (v2 : Int32) (v3 : Int32) (s0 : Int32) (s1 : Int32) (s2 : Int32) : Option (rhM) :=
  if (s1 - s2) < s0 then
    (k175 M v0 v1 v2)
  else
    f_X12_spread_46 (f_X12_spread_169 k16 Γ) Γ rhFU M v0 v1 v2 v3 0
def f_X12_spread_16 (k175 : rhM → Nat → Int32 → Int32 → Option (rhM)) (Γ : rhG) : Nat → rhM → Nat → Int32 → Int32 → Int32 → Option (rhM)
  | 0, _, _, _, _, _ => none
  | n + 1, M, v0, v1, v2, v3 =>
    rhck (Γ.2.2.1 v0 = 13) <|
    rhck (Γ.2.2.1 (M.2.2 v0 64) = 15) <|
    rhck (0 ≤ (v2).toInt ∧ (v2).toInt < (Γ.2.2.2 (M.2.2 v0 64) : Nat)) <|
    if v2 = 0 then
      (f_X12_spread_39 (f_X12_spread_16 k175 Γ n) k175 Γ M v0 v1 v2 v3 v3 (M.1 (M.2.2 v0 64) v2.toNatClampNeg) 0)
    else
      rhck (0 ≤ (v2 - 1).toInt ∧ (v2 - 1).toInt < (Γ.2.2.2 (M.2.2 v0 64) : Nat)) <|
      f_X12_spread_39 (f_X12_spread_16 k175 Γ n) k175 Γ M v0 v1 v2 v3 v3 (M.1 (M.2.2 v0 64) v2.toNatClampNeg) (M.1 (M.2.2 v0 64) (v2 - 1).toNatClampNeg)
def f_X12_spread_175 (k6 : rhM → Nat → Int32 → Int32 → Option (rhM)) (Γ : rhG) (M : rhM) (v0 : Nat) (v1 : Int32) (v2 : Int32) : Option (rhM) :=
  let x37 : Int32 := v2 + 1
  k6 M v0 v1 x37
def f_X12_spread_6 (Γ : rhG) : Nat → rhM → Nat → Int32 → Int32 → Option (rhM)
  | 0, _, _, _, _ => none
  | n + 1, M, v0, v1, v2 =>
    rhck (Γ.2.2.1 v0 = 13) <|
    (f_X12_railMany Γ M v0).bind fun r4 =>
    if v2 < r4 then
      (f_X12_spread_16 (f_X12_spread_175 (f_X12_spread_6 Γ n) Γ) Γ rhFU M v0 v1 v2 1)
    else
      some M
def f_X12_spread (Γ : rhG) (M : rhM) (v0 : Nat) (v1 : Int32) : Option (rhM) :=
  rhck (Γ.2.2.1 v0 = 13) <|
  (f_X12_keepAt Γ M v0).bind fun r2 =>
  f_X12_spread_6 Γ rhFU r2 v0 v1 0
set_option maxHeartbeats 4000000 in
set_option maxRecDepth 100000 in
theorem b_X12_spread_163 {E : rhE} {Γ : rhG} {k46 : rhM → Nat → Int32 → Int32 → Int32 → Int32 → Option (rhM)} (hk46 : ∀ (M : rhM) (v0 : Nat) (v1 : Int32) (v2 : Int32) (v3 : Int32) (v4 : Int32), rhF E 9 6 yX12_spread cX12_spread none Γ (rhe1U Γ) (k46 M v0 v1 v2 v3 v4) 46 [(0, rhR v0), (1, rhI v1), (2, rhI v2), (3, rhI v3), (4, rhI v4)] [] Γ M) : ∀ (M : rhM) (v0 : Nat) (v1 : Int32) (v2 : Int32) (v3 : Int32) (v4 : Int32), rhF E 9 6 yX12_spread cX12_spread none Γ (rhe1U Γ) (f_X12_spread_163 k46 Γ M v0 v1 v2 v3 v4) 163 [(0, rhR v0), (1, rhI v1), (2, rhI v2), (3, rhI v3), (4, rhI v4)] [] Γ M := by
  intro M v0 v1 v2 v3 v4
  rw [f_X12_spread_163]
  refine rhF.iinc (pc := 163) (L' := [(4, rhI _), (0, rhR _), (1, rhI _), (2, rhI _), (3, rhI _)]) dX12_spread_163 4 rfl rfl (by decide) rfl ?_
  refine rhF.goto (pc := 166) 46 dX12_spread_166 (by decide) ?_
  refine rhF.sub [1, 2, 3, 4, 0] rfl ?_
  exact hk46 _ _ _ _ _ _
set_option maxHeartbeats 4000000 in
set_option maxRecDepth 100000 in
theorem b_X12_spread_46 {E : rhE} {Γ : rhG} {k169 : rhM → Nat → Int32 → Int32 → Int32 → Option (rhM)} (hk169 : ∀ (M : rhM) (v0 : Nat) (v1 : Int32) (v2 : Int32) (v3 : Int32), rhF E 9 6 yX12_spread cX12_spread none Γ (rhe1U Γ) (k169 M v0 v1 v2 v3) 169 [(0, rhR v0), (1, rhI v1), (2, rhI v2), (3, rhI v3)] [] Γ M) : ∀ (n : Nat) (M : rhM) (v0 : Nat) (v1 : Int32) (v2 : Int32) (v3 : Int32) (v4 : Int32), rhF E 9 6 yX12_spread cX12_spread none Γ (rhe1U Γ) (f_X12_spread_46 k169 Γ n M v0 v1 v2 v3 v4) 46 [(0, rhR v0), (1, rhI v1), (2, rhI v2), (3, rhI v3), (4, rhI v4)] [] Γ M := by
  intro n
  induction n with
  | zero => intro M v0 v1 v2 v3 v4; rw [f_X12_spread_46]; exact rhF.nope
  | succ n ih =>
    intro M v0 v1 v2 v3 v4
    rw [f_X12_spread_46]
    refine rhF.iload (pc := 46) dX12_spread_46 4 rfl ?_
    refine rhF.aload_n (pc := 48) dX12_spread_48 0 rfl ?_
    refine rhF.ck (fun h11 => ?_)
    refine rhF.callV (pc := 49) (ci := 12) (embc := rhe0I _ _) [] dX12_spread_49 ml_X12_412 mv_X12_railMany ⟨_, rfl, rfl⟩ h11 (c_X12_railMany _ _ _ _) (by decide) (by decide) rfl (Nat.le_of_ble_eq_true rfl) (fun r12 _ => ?_)
    refine rhF.icmp_ge (pc := 52) 169 dX12_spread_52 (by decide) (fun h13 => ?_) (fun h13 => ?_)
    · refine rhF.aload_n (pc := 55) dX12_spread_55 0 rfl ?_
      refine rhF.callV (pc := 56) (ci := 12) (embc := rhe1U _) [] dX12_spread_56 ml_X12_512 mv_X12_layAt ⟨_, rfl, rfl⟩ h11 (c_X12_layAt _ _ _ _) (by decide) (by decide) rfl (Nat.le_of_ble_eq_true rfl) (fun r14 _ => ?_)
      refine rhF.aload_n (pc := 59) dX12_spread_59 0 rfl ?_
      refine rhF.iload_n (pc := 60) dX12_spread_60 2 rfl ?_
      refine rhF.iload_n (pc := 61) dX12_spread_61 3 rfl ?_
      refine rhF.iload (pc := 62) dX12_spread_62 4 rfl ?_
      refine rhF.callV (pc := 64) (ci := 12) (embc := rhe1I _) [rhI _, rhI _, rhI _] dX12_spread_64 ml_X12_471 mv_X12_isLawful ⟨_, rfl, rfl⟩ h11 (c_X12_isLawful _ _ _ _ _ _ _) (by decide) (by decide) rfl (Nat.le_of_ble_eq_true rfl) (fun r15 _ => ?_)
      refine rhF.if_ne (pc := 67) 73 dX12_spread_67 (by decide) (fun h16 => ?_) (fun h16 => ?_)
      · refine rhF.goto (pc := 70) 163 dX12_spread_70 (by decide) ?_
        exact (b_X12_spread_163 ih) _ _ _ _ _ _
      · refine rhF.aload_n (pc := 73) dX12_spread_73 0 rfl ?_
        refine rhF.iload_n (pc := 74) dX12_spread_74 2 rfl ?_
        refine rhF.iload_n (pc := 75) dX12_spread_75 3 rfl ?_
        refine rhF.iload (pc := 76) dX12_spread_76 4 rfl ?_
        refine rhF.callV (pc := 78) (ci := 12) (embc := rhe1U _) [rhI _, rhI _, rhI _] dX12_spread_78 ml_X12_474 mv_X12_moves ⟨_, rfl, rfl⟩ h11 (c_X12_moves _ _ _ _ _ _ _) (by decide) (by decide) rfl (Nat.le_of_ble_eq_true rfl) (fun r18 _ => ?_)
        refine rhF.aload_n (pc := 81) dX12_spread_81 0 rfl ?_
        refine rhF.callV (pc := 82) (ci := 12) (embc := rhe0I _ _) [] dX12_spread_82 ml_X12_490 mv_X12_stateOf ⟨_, rfl, rfl⟩ h11 (c_X12_stateOf _ _ _ _) (by decide) (by decide) rfl (Nat.le_of_ble_eq_true rfl) (fun r19 _ => ?_)
        refine rhF.istore (pc := 85) (L' := [(5, rhI _), (0, rhR _), (1, rhI _), (2, rhI _), (3, rhI _), (4, rhI _)]) dX12_spread_85 (by decide) rfl ?_
        refine rhF.aload_n (pc := 87) dX12_spread_87 1 rfl ?_
        refine rhF.get (pc := 88) (rhR _) dX12_spread_88 fl_X12_129 h11 rfl ?_
        refine rhF.iload (pc := 91) dX12_spread_91 0 rfl ?_
        refine rhF.ck (fun h20 => ?_)
        refine rhF.ck (fun h21 => ?_)
        refine rhF.iald (pc := 93) dX12_spread_93 h20 h21 ?_
        refine rhF.if_lt (pc := 94) 100 dX12_spread_94 (by decide) (fun h22 => ?_) (fun h22 => ?_)
        · refine rhF.aload_n (pc := 100) dX12_spread_100 1 rfl ?_
          refine rhF.get (pc := 101) (rhR _) dX12_spread_101 fl_X12_129 h11 rfl ?_
          refine rhF.iload (pc := 104) dX12_spread_104 0 rfl ?_
          refine rhF.aload_n (pc := 106) dX12_spread_106 1 rfl ?_
          refine rhF.get (pc := 107) (rhR _) dX12_spread_107 fl_X12_129 h11 rfl ?_
          refine rhF.iload_n (pc := 110) dX12_spread_110 2 rfl ?_
          refine rhF.ck (fun h23 => ?_)
          refine rhF.iald (pc := 111) dX12_spread_111 h20 h23 ?_
          refine rhF.iconst (pc := 112) (v := 1) dX12_spread_112 (by decide) ?_
          refine rhF.iadd (pc := 113) dX12_spread_113 ?_
          refine rhF.iast (pc := 114) dX12_spread_114 h20 h21 ?_
          refine rhF.aload_n (pc := 115) dX12_spread_115 1 rfl ?_
          refine rhF.get (pc := 116) (rhR _) dX12_spread_116 fl_X12_126 h11 rfl ?_
          refine rhF.iload (pc := 119) dX12_spread_119 0 rfl ?_
          refine rhF.iload_n (pc := 121) dX12_spread_121 2 rfl ?_
          refine rhF.ck (fun h25 => ?_)
          refine rhF.ck (fun h26 => ?_)
          refine rhF.iast (pc := 122) dX12_spread_122 h25 h26 ?_
          refine rhF.aload_n (pc := 123) dX12_spread_123 1 rfl ?_
          refine rhF.get (pc := 124) (rhR _) dX12_spread_124 fl_X12_123 h11 rfl ?_
          refine rhF.iload (pc := 127) dX12_spread_127 0 rfl ?_
          refine rhF.bipush (pc := 129) (v := 100) dX12_spread_129 (by decide) ?_
          refine rhF.iload_n (pc := 131) dX12_spread_131 3 rfl ?_
          refine rhF.imul (pc := 132) dX12_spread_132 ?_
          refine rhF.bipush (pc := 133) (v := 10) dX12_spread_133 (by decide) ?_
          refine rhF.iload_n (pc := 135) dX12_spread_135 4 rfl ?_
          refine rhF.imul (pc := 136) dX12_spread_136 ?_
          refine rhF.iadd (pc := 137) dX12_spread_137 ?_
          refine rhF.iload (pc := 138) dX12_spread_138 5 rfl ?_
          refine rhF.iadd (pc := 140) dX12_spread_140 ?_
          refine rhF.ck (fun h28 => ?_)
          refine rhF.ck (fun h29 => ?_)
          refine rhF.iast (pc := 141) dX12_spread_141 h28 h29 ?_
          refine rhF.aload_n (pc := 142) dX12_spread_142 1 rfl ?_
          refine rhF.get (pc := 143) (rhR _) dX12_spread_143 fl_X12_136 h11 rfl ?_
          refine rhF.aload_n (pc := 146) dX12_spread_146 1 rfl ?_
          refine rhF.get (pc := 147) (rhI _) dX12_spread_147 fl_X12_493 h11 rfl ?_
          refine rhF.iload (pc := 150) dX12_spread_150 0 rfl ?_
          refine rhF.ck (fun h31 => ?_)
          refine rhF.ck (fun h32 => ?_)
          refine rhF.iast (pc := 152) dX12_spread_152 h31 h32 ?_
          refine rhF.aload_n (pc := 153) dX12_spread_153 1 rfl ?_
          refine rhF.dupr (pc := 154) dX12_spread_154 ?_
          refine rhF.get (pc := 155) (rhI _) dX12_spread_155 fl_X12_493 h11 rfl ?_
          refine rhF.iconst (pc := 158) (v := 1) dX12_spread_158 (by decide) ?_
          refine rhF.iadd (pc := 159) dX12_spread_159 ?_
          refine rhF.puti (pc := 160) dX12_spread_160 fl_X12_493 h11 (fun q hq => by cases hq; exact Or.inl rfl) ⟨rfl, rfl⟩ (fun _ => rfl) ?_
          refine rhF.sub [1, 2, 3, 4, 5] rfl ?_
          exact (b_X12_spread_163 ih) _ _ _ _ _ _
        · refine rhF.goto (pc := 97) 163 dX12_spread_97 (by decide) ?_
          refine rhF.sub [1, 2, 3, 4, 5] rfl ?_
          exact (b_X12_spread_163 ih) _ _ _ _ _ _
    · refine rhF.sub [0, 1, 2, 3] rfl ?_
      exact hk169 _ _ _ _ _
set_option maxHeartbeats 4000000 in
set_option maxRecDepth 100000 in
theorem b_X12_spread_169 {E : rhE} {Γ : rhG} {k16 : rhM → Nat → Int32 → Int32 → Int32 → Option (rhM)} (hk16 : ∀ (M : rhM) (v0 : Nat) (v1 : Int32) (v2 : Int32) (v3 : Int32), rhF E 9 6 yX12_spread cX12_spread none Γ (rhe1U Γ) (k16 M v0 v1 v2 v3) 16 [(0, rhR v0), (1, rhI v1), (2, rhI v2), (3, rhI v3)] [] Γ M) : ∀ (M : rhM) (v0 : Nat) (v1 : Int32) (v2 : Int32) (v3 : Int32), rhF E 9 6 yX12_spread cX12_spread none Γ (rhe1U Γ) (f_X12_spread_169 k16 Γ M v0 v1 v2 v3) 169 [(0, rhR v0), (1, rhI v1), (2, rhI v2), (3, rhI v3)] [] Γ M := by
  intro M v0 v1 v2 v3
  rw [f_X12_spread_169]
  refine rhF.iinc (pc := 169) (L' := [(3, rhI _), (0, rhR _), (1, rhI _), (2, rhI _)]) dX12_spread_169 3 rfl rfl (by decide) rfl ?_
  refine rhF.goto (pc := 172) 16 dX12_spread_172 (by decide) ?_
  refine rhF.sub [1, 2, 3, 0] rfl ?_
  exact hk16 _ _ _ _ _
set_option maxHeartbeats 4000000 in
set_option maxRecDepth 100000 in
theorem b_X12_spread_39 {E : rhE} {Γ : rhG} {k16 : rhM → Nat → Int32 → Int32 → Int32 → Option (rhM)} {k175 : rhM → Nat → Int32 → Int32 → Option (rhM)} (hk16 : ∀ (M : rhM) (v0 : Nat) (v1 : Int32) (v2 : Int32) (v3 : Int32), rhF E 9 6 yX12_spread cX12_spread none Γ (rhe1U Γ) (k16 M v0 v1 v2 v3) 16 [(0, rhR v0), (1, rhI v1), (2, rhI v2), (3, rhI v3)] [] Γ M) (hk175 : ∀ (M : rhM) (v0 : Nat) (v1 : Int32) (v2 : Int32), rhF E 9 6 yX12_spread cX12_spread none Γ (rhe1U Γ) (k175 M v0 v1 v2) 175 [(0, rhR v0), (1, rhI v1), (2, rhI v2)] [] Γ M) : ∀ (M : rhM) (v0 : Nat) (v1 : Int32) (v2 : Int32) (v3 : Int32) (s0 : Int32) (s1 : Int32) (s2 : Int32), rhF E 9 6 yX12_spread cX12_spread none Γ (rhe1U Γ) (f_X12_spread_39 k16 k175 Γ M v0 v1 v2 v3 s0 s1 s2) 39 [(0, rhR v0), (1, rhI v1), (2, rhI v2), (3, rhI v3)] [rhI s2, rhI s1, rhI s0] Γ M := by
  intro M v0 v1 v2 v3 s0 s1 s2
  rw [f_X12_spread_39]
  refine rhF.isub (pc := 39) dX12_spread_39 ?_
  refine rhF.icmp_gt (pc := 40) 175 dX12_spread_40 (by decide) (fun h10 => ?_) (fun h10 => ?_)
  · refine rhF.sub [0, 1, 2] rfl ?_
    exact hk175 _ _ _ _
  · refine rhF.iconst (pc := 43) (v := 0) dX12_spread_43 (by decide) ?_
    refine rhF.istore (pc := 44) (L' := [(4, rhI _), (0, rhR _), (1, rhI _), (2, rhI _), (3, rhI _)]) dX12_spread_44 (by decide) rfl ?_
    refine rhF.sub [1, 2, 3, 4, 0] rfl ?_
    exact (b_X12_spread_46 (b_X12_spread_169 hk16) rhFU) _ _ _ _ _ _
set_option maxHeartbeats 4000000 in
set_option maxRecDepth 100000 in
theorem b_X12_spread_16 {E : rhE} {Γ : rhG} {k175 : rhM → Nat → Int32 → Int32 → Option (rhM)} (hk175 : ∀ (M : rhM) (v0 : Nat) (v1 : Int32) (v2 : Int32), rhF E 9 6 yX12_spread cX12_spread none Γ (rhe1U Γ) (k175 M v0 v1 v2) 175 [(0, rhR v0), (1, rhI v1), (2, rhI v2)] [] Γ M) : ∀ (n : Nat) (M : rhM) (v0 : Nat) (v1 : Int32) (v2 : Int32) (v3 : Int32), rhF E 9 6 yX12_spread cX12_spread none Γ (rhe1U Γ) (f_X12_spread_16 k175 Γ n M v0 v1 v2 v3) 16 [(0, rhR v0), (1, rhI v1), (2, rhI v2), (3, rhI v3)] [] Γ M := by
  intro n
  induction n with
  | zero => intro M v0 v1 v2 v3; rw [f_X12_spread_16]; exact rhF.nope
  | succ n ih =>
    intro M v0 v1 v2 v3
    rw [f_X12_spread_16]
    refine rhF.iload_n (pc := 16) dX12_spread_16 3 rfl ?_
    refine rhF.aload_n (pc := 17) dX12_spread_17 0 rfl ?_
    refine rhF.ck (fun h6 => ?_)
    refine rhF.get (pc := 18) (rhR _) dX12_spread_18 fl_X12_145 h6 rfl ?_
    refine rhF.iload_n (pc := 21) dX12_spread_21 2 rfl ?_
    refine rhF.ck (fun h7 => ?_)
    refine rhF.ck (fun h8 => ?_)
    refine rhF.iald (pc := 22) dX12_spread_22 h7 h8 ?_
    refine rhF.iload_n (pc := 23) dX12_spread_23 2 rfl ?_
    refine rhF.if_ne (pc := 24) 31 dX12_spread_24 (by decide) (fun h9 => ?_) (fun h9 => ?_)
    · refine rhF.iconst (pc := 27) (v := 0) dX12_spread_27 (by decide) ?_
      refine rhF.goto (pc := 28) 39 dX12_spread_28 (by decide) ?_
      exact (b_X12_spread_39 ih hk175) _ _ _ _ _ _ _ _
    · refine rhF.aload_n (pc := 31) dX12_spread_31 0 rfl ?_
      refine rhF.get (pc := 32) (rhR _) dX12_spread_32 fl_X12_145 h6 rfl ?_
      refine rhF.iload_n (pc := 35) dX12_spread_35 2 rfl ?_
      refine rhF.iconst (pc := 36) (v := 1) dX12_spread_36 (by decide) ?_
      refine rhF.isub (pc := 37) dX12_spread_37 ?_
      refine rhF.ck (fun h36 => ?_)
      refine rhF.iald (pc := 38) dX12_spread_38 h7 h36 ?_
      exact (b_X12_spread_39 ih hk175) _ _ _ _ _ _ _ _
set_option maxHeartbeats 4000000 in
set_option maxRecDepth 100000 in
theorem b_X12_spread_175 {E : rhE} {Γ : rhG} {k6 : rhM → Nat → Int32 → Int32 → Option (rhM)} (hk6 : ∀ (M : rhM) (v0 : Nat) (v1 : Int32) (v2 : Int32), rhF E 9 6 yX12_spread cX12_spread none Γ (rhe1U Γ) (k6 M v0 v1 v2) 6 [(0, rhR v0), (1, rhI v1), (2, rhI v2)] [] Γ M) : ∀ (M : rhM) (v0 : Nat) (v1 : Int32) (v2 : Int32), rhF E 9 6 yX12_spread cX12_spread none Γ (rhe1U Γ) (f_X12_spread_175 k6 Γ M v0 v1 v2) 175 [(0, rhR v0), (1, rhI v1), (2, rhI v2)] [] Γ M := by
  intro M v0 v1 v2
  rw [f_X12_spread_175]
  refine rhF.iinc (pc := 175) (L' := [(2, rhI _), (0, rhR _), (1, rhI _)]) dX12_spread_175 2 rfl rfl (by decide) rfl ?_
  refine rhF.goto (pc := 178) 6 dX12_spread_178 (by decide) ?_
  refine rhF.sub [1, 2, 0] rfl ?_
  exact hk6 _ _ _ _
set_option maxHeartbeats 4000000 in
set_option maxRecDepth 100000 in
theorem b_X12_spread_6 {E : rhE} {Γ : rhG} : ∀ (n : Nat) (M : rhM) (v0 : Nat) (v1 : Int32) (v2 : Int32), rhF E 9 6 yX12_spread cX12_spread none Γ (rhe1U Γ) (f_X12_spread_6 Γ n M v0 v1 v2) 6 [(0, rhR v0), (1, rhI v1), (2, rhI v2)] [] Γ M := by
  intro n
  induction n with
  | zero => intro M v0 v1 v2; rw [f_X12_spread_6]; exact rhF.nope
  | succ n ih =>
    intro M v0 v1 v2
    rw [f_X12_spread_6]
    refine rhF.iload_n (pc := 6) dX12_spread_6 2 rfl ?_
    refine rhF.aload_n (pc := 7) dX12_spread_7 0 rfl ?_
    refine rhF.ck (fun h3 => ?_)
    refine rhF.callV (pc := 8) (ci := 12) (embc := rhe0I _ _) [] dX12_spread_8 ml_X12_412 mv_X12_railMany ⟨_, rfl, rfl⟩ h3 (c_X12_railMany _ _ _ _) (by decide) (by decide) rfl (Nat.le_of_ble_eq_true rfl) (fun r4 _ => ?_)
    refine rhF.icmp_ge (pc := 11) 181 dX12_spread_11 (by decide) (fun h5 => ?_) (fun h5 => ?_)
    · refine rhF.iconst (pc := 14) (v := 1) dX12_spread_14 (by decide) ?_
      refine rhF.istore_n (pc := 15) (L' := [(3, rhI _), (0, rhR _), (1, rhI _), (2, rhI _)]) dX12_spread_15 (by decide) rfl ?_
      refine rhF.sub [1, 2, 3, 0] rfl ?_
      exact (b_X12_spread_16 (b_X12_spread_175 ih) rhFU) _ _ _ _ _
    · exact rhF.vret (pc := 181) dX12_spread_181 rfl rfl
set_option maxHeartbeats 4000000 in
set_option maxRecDepth 100000 in
theorem b_X12_spread {E : rhE} {Γ : rhG} : ∀ (M : rhM) (v0 : Nat) (v1 : Int32), rhF E 9 6 yX12_spread cX12_spread none Γ (rhe1U Γ) (f_X12_spread Γ M v0 v1) 0 [(0, rhR v0), (1, rhI v1)] [] Γ M := by
  intro M v0 v1
  rw [f_X12_spread]
  refine rhF.aload_n (pc := 0) dX12_spread_0 0 rfl ?_
  refine rhF.ck (fun h1 => ?_)
  refine rhF.callV (pc := 1) (ci := 12) (embc := rhe1U _) [] dX12_spread_1 ml_X12_509 mv_X12_keepAt ⟨_, rfl, rfl⟩ h1 (c_X12_keepAt _ _ _ _) (by decide) (by decide) rfl (Nat.le_of_ble_eq_true rfl) (fun r2 _ => ?_)
  refine rhF.iconst (pc := 4) (v := 0) dX12_spread_4 (by decide) ?_
  refine rhF.istore_n (pc := 5) (L' := [(2, rhI _), (0, rhR _), (1, rhI _)]) dX12_spread_5 (by decide) rfl ?_
  refine rhF.sub [1, 2, 0] rfl ?_
  exact (b_X12_spread_6 rhFU) _ _ _ _
theorem c_X12_spread (E : rhE) (Γ : rhG) (M : rhM) (v0 : Nat) (v1 : Int32) : ∀ a, f_X12_spread Γ M v0 v1 = some a → rhC E 9 yX12_spread cX12_spread 6 none [rhR v0, rhI v1] Γ M ((rhe1U Γ) a) := rhF.met (by decide +kernel) (Nat.le_of_ble_eq_true rfl) (b_X12_spread M v0 v1)
def f_X12_search_68 (k11 : rhM → Nat → Int32 → Int32 → Option (Int32 × rhM)) (Γ : rhG) (M : rhM) (v0 : Nat) (v2 : Int32) (v3 : Int32) : Option (Int32 × rhM) :=
  let x17 : Int32 := v3 + 1
  k11 M v0 v2 x17
def f_X12_search_11 (Γ : rhG) : Nat → rhM → Nat → Int32 → Int32 → Option (Int32 × rhM)
  | 0, _, _, _, _ => none
  | n + 1, M, v0, v2, v3 =>
    rhck (Γ.2.2.1 v0 = 13) <|
    if v3 < (M.1 v0 60) then
      (rhck (Γ.2.2.1 (M.2.2 v0 58) = 15) <|
      rhck (0 ≤ (v3).toInt ∧ (v3).toInt < (Γ.2.2.2 (M.2.2 v0 58) : Nat)) <|
      (f_X12_layState Γ M v0 (M.1 (M.2.2 v0 58) v3.toNatClampNeg)).bind fun r8 =>
      (f_X12_isEnd Γ r8 v0).bind fun r9 =>
      if r9 = 0 then
        (rhck (Γ.2.2.1 (r8.2.2 v0 58) = 15) <|
        rhck (0 ≤ (v3).toInt ∧ (v3).toInt < (Γ.2.2.2 (r8.2.2 v0 58) : Nat)) <|
        rhck (Γ.2.2.1 (r8.2.2 v0 56) = 15) <|
        rhck (0 ≤ (r8.1 (r8.2.2 v0 58) v3.toNatClampNeg).toInt ∧ (r8.1 (r8.2.2 v0 58) v3.toNatClampNeg).toInt < (Γ.2.2.2 (r8.2.2 v0 56) : Nat)) <|
        if (r8.1 (r8.2.2 v0 56) (r8.1 (r8.2.2 v0 58) v3.toNatClampNeg).toNatClampNeg) < v2 then
          ((f_X12_spread Γ r8 v0 (r8.1 (r8.2.2 v0 58) v3.toNatClampNeg)).bind fun r16 =>
          f_X12_search_68 (f_X12_search_11 Γ n) Γ r16 v0 v2 v3)
        else
          f_X12_search_68 (f_X12_search_11 Γ n) Γ r8 v0 v2 v3)
      else
        rhck (Γ.2.2.1 (r8.2.2 v0 58) = 15) <|
        rhck (0 ≤ (v3).toInt ∧ (v3).toInt < (Γ.2.2.2 (r8.2.2 v0 58) : Nat)) <|
        some ((r8.1 (r8.2.2 v0 58) v3.toNatClampNeg, r8)))
    else
      some (((-1), M))
def f_X12_search (Γ : rhG) (M : rhM) (v0 : Nat) (v1 : Int32) (v2 : Int32) : Option (Int32 × rhM) :=
  rhck (Γ.2.2.1 v0 = 13) <|
  let M2 := rhsi M v0 61 v1
  (f_X12_begins Γ M2 v0).bind fun r3 =>
  f_X12_search_11 Γ rhFU r3 v0 v2 0
set_option maxHeartbeats 4000000 in
set_option maxRecDepth 100000 in
theorem b_X12_search_68 {E : rhE} {Γ : rhG} {k11 : rhM → Nat → Int32 → Int32 → Option (Int32 × rhM)} (hk11 : ∀ (M : rhM) (v0 : Nat) (v2 : Int32) (v3 : Int32), rhF E 10 4 yX12_search cX12_search (some .int) Γ (rhe1I Γ) (k11 M v0 v2 v3) 11 [(0, rhR v0), (2, rhI v2), (3, rhI v3)] [] Γ M) : ∀ (M : rhM) (v0 : Nat) (v2 : Int32) (v3 : Int32), rhF E 10 4 yX12_search cX12_search (some .int) Γ (rhe1I Γ) (f_X12_search_68 k11 Γ M v0 v2 v3) 68 [(0, rhR v0), (2, rhI v2), (3, rhI v3)] [] Γ M := by
  intro M v0 v2 v3
  rw [f_X12_search_68]
  refine rhF.iinc (pc := 68) (L' := [(3, rhI _), (0, rhR _), (2, rhI _)]) dX12_search_68 2 rfl rfl (by decide) rfl ?_
  refine rhF.goto (pc := 71) 11 dX12_search_71 (by decide) ?_
  refine rhF.sub [1, 2, 0] rfl ?_
  exact hk11 _ _ _ _
set_option maxHeartbeats 4000000 in
set_option maxRecDepth 100000 in
theorem b_X12_search_11 {E : rhE} {Γ : rhG} : ∀ (n : Nat) (M : rhM) (v0 : Nat) (v2 : Int32) (v3 : Int32), rhF E 10 4 yX12_search cX12_search (some .int) Γ (rhe1I Γ) (f_X12_search_11 Γ n M v0 v2 v3) 11 [(0, rhR v0), (2, rhI v2), (3, rhI v3)] [] Γ M := by
  intro n
  induction n with
  | zero => intro M v0 v2 v3; rw [f_X12_search_11]; exact rhF.nope
  | succ n ih =>
    intro M v0 v2 v3
    rw [f_X12_search_11]
    refine rhF.iload_n (pc := 11) dX12_search_11 2 rfl ?_
    refine rhF.aload_n (pc := 12) dX12_search_12 0 rfl ?_
    refine rhF.ck (fun h4 => ?_)
    refine rhF.get (pc := 13) (rhI _) dX12_search_13 fl_X12_493 h4 rfl ?_
    refine rhF.icmp_ge (pc := 16) 74 dX12_search_16 (by decide) (fun h5 => ?_) (fun h5 => ?_)
    · refine rhF.aload_n (pc := 19) dX12_search_19 0 rfl ?_
      refine rhF.aload_n (pc := 20) dX12_search_20 0 rfl ?_
      refine rhF.get (pc := 21) (rhR _) dX12_search_21 fl_X12_136 h4 rfl ?_
      refine rhF.iload_n (pc := 24) dX12_search_24 2 rfl ?_
      refine rhF.ck (fun h6 => ?_)
      refine rhF.ck (fun h7 => ?_)
      refine rhF.iald (pc := 25) dX12_search_25 h6 h7 ?_
      refine rhF.callV (pc := 26) (ci := 12) (embc := rhe1U _) [rhI _] dX12_search_26 ml_X12_499 mv_X12_layState ⟨_, rfl, rfl⟩ h4 (c_X12_layState _ _ _ _ _) (by decide) (by decide) rfl (Nat.le_of_ble_eq_true rfl) (fun r8 _ => ?_)
      refine rhF.aload_n (pc := 29) dX12_search_29 0 rfl ?_
      refine rhF.callV (pc := 30) (ci := 12) (embc := rhe0I _ _) [] dX12_search_30 ml_X12_503 mv_X12_isEnd ⟨_, rfl, rfl⟩ h4 (c_X12_isEnd _ _ _ _) (by decide) (by decide) rfl (Nat.le_of_ble_eq_true rfl) (fun r9 _ => ?_)
      refine rhF.if_eq (pc := 33) 43 dX12_search_33 (by decide) (fun h10 => ?_) (fun h10 => ?_)
      · refine rhF.aload_n (pc := 43) dX12_search_43 0 rfl ?_
        refine rhF.get (pc := 44) (rhR _) dX12_search_44 fl_X12_129 h4 rfl ?_
        refine rhF.aload_n (pc := 47) dX12_search_47 0 rfl ?_
        refine rhF.get (pc := 48) (rhR _) dX12_search_48 fl_X12_136 h4 rfl ?_
        refine rhF.iload_n (pc := 51) dX12_search_51 2 rfl ?_
        refine rhF.ck (fun h11 => ?_)
        refine rhF.ck (fun h12 => ?_)
        refine rhF.iald (pc := 52) dX12_search_52 h11 h12 ?_
        refine rhF.ck (fun h13 => ?_)
        refine rhF.ck (fun h14 => ?_)
        refine rhF.iald (pc := 53) dX12_search_53 h13 h14 ?_
        refine rhF.iload_n (pc := 54) dX12_search_54 1 rfl ?_
        refine rhF.icmp_ge (pc := 55) 68 dX12_search_55 (by decide) (fun h15 => ?_) (fun h15 => ?_)
        · refine rhF.aload_n (pc := 58) dX12_search_58 0 rfl ?_
          refine rhF.aload_n (pc := 59) dX12_search_59 0 rfl ?_
          refine rhF.get (pc := 60) (rhR _) dX12_search_60 fl_X12_136 h4 rfl ?_
          refine rhF.iload_n (pc := 63) dX12_search_63 2 rfl ?_
          refine rhF.iald (pc := 64) dX12_search_64 h11 h12 ?_
          refine rhF.callV (pc := 65) (ci := 12) (embc := rhe1U _) [rhI _] dX12_search_65 ml_X12_506 mv_X12_spread ⟨_, rfl, rfl⟩ h4 (c_X12_spread _ _ _ _ _) (by decide) (by decide) rfl (Nat.le_of_ble_eq_true rfl) (fun r16 _ => ?_)
          exact (b_X12_search_68 ih) _ _ _ _
        · exact (b_X12_search_68 ih) _ _ _ _
      · refine rhF.aload_n (pc := 36) dX12_search_36 0 rfl ?_
        refine rhF.get (pc := 37) (rhR _) dX12_search_37 fl_X12_136 h4 rfl ?_
        refine rhF.iload_n (pc := 40) dX12_search_40 2 rfl ?_
        refine rhF.ck (fun h18 => ?_)
        refine rhF.ck (fun h19 => ?_)
        refine rhF.iald (pc := 41) dX12_search_41 h18 h19 ?_
        exact rhF.zret (pc := 42) dX12_search_42 rfl rfl rfl
    · refine rhF.iconst (pc := 74) (v := (-1)) dX12_search_74 (by decide) ?_
      exact rhF.zret (pc := 75) dX12_search_75 rfl rfl rfl
set_option maxHeartbeats 4000000 in
set_option maxRecDepth 100000 in
theorem b_X12_search {E : rhE} {Γ : rhG} : ∀ (M : rhM) (v0 : Nat) (v1 : Int32) (v2 : Int32), rhF E 10 4 yX12_search cX12_search (some .int) Γ (rhe1I Γ) (f_X12_search Γ M v0 v1 v2) 0 [(0, rhR v0), (1, rhI v1), (2, rhI v2)] [] Γ M := by
  intro M v0 v1 v2
  rw [f_X12_search]
  refine rhF.aload_n (pc := 0) dX12_search_0 0 rfl ?_
  refine rhF.iload_n (pc := 1) dX12_search_1 1 rfl ?_
  refine rhF.ck (fun h1 => ?_)
  refine rhF.puti (pc := 2) dX12_search_2 fl_X12_481 h1 (fun q hq => by cases hq; exact Or.inl rfl) ⟨rfl, rfl⟩ (fun _ => rfl) ?_
  refine rhF.aload_n (pc := 5) dX12_search_5 0 rfl ?_
  refine rhF.callV (pc := 6) (ci := 12) (embc := rhe1U _) [] dX12_search_6 ml_X12_496 mv_X12_begins ⟨_, rfl, rfl⟩ h1 (c_X12_begins _ _ _ _) (by decide) (by decide) rfl (Nat.le_of_ble_eq_true rfl) (fun r3 _ => ?_)
  refine rhF.iconst (pc := 9) (v := 0) dX12_search_9 (by decide) ?_
  refine rhF.istore_n (pc := 10) (L' := [(3, rhI _), (0, rhR _), (1, rhI _), (2, rhI _)]) dX12_search_10 (by decide) rfl ?_
  refine rhF.sub [1, 3, 0] rfl ?_
  exact (b_X12_search_11 rhFU) _ _ _ _
theorem c_X12_search (E : rhE) (Γ : rhG) (M : rhM) (v0 : Nat) (v1 : Int32) (v2 : Int32) : ∀ a, f_X12_search Γ M v0 v1 v2 = some a → rhC E 10 yX12_search cX12_search 4 (some .int) [rhR v0, rhI v1, rhI v2] Γ M ((rhe1I Γ) a) := rhF.met (by decide +kernel) (Nat.le_of_ble_eq_true rfl) (b_X12_search M v0 v1 v2)
def f_X12_fewest (Γ : rhG) (M : rhM) (v0 : Nat) : Option (Int32 × rhM) :=
  rhck (Γ.2.2.1 v0 = 13) <|
  let M2 := rhsi M v0 66 0
  (f_X12_isMany Γ M2 v0).bind fun r3 =>
  if r3 = 0 then
    ((f_X12_search Γ M2 v0 (0 : Int32) (246960 : Int32)).bind fun r5 =>
    let x6 := r5.1
    if x6 < 0 then
      (some (((-1), r5.2)))
    else
      (f_X12_layWay Γ r5.2 v0 x6).bind fun r8 =>
      some ((r8.1 v0 66, r8)))
  else
    some (((-2), M2))
set_option maxHeartbeats 4000000 in
set_option maxRecDepth 100000 in
theorem b_X12_fewest {E : rhE} {Γ : rhG} : ∀ (M : rhM) (v0 : Nat), rhF E 11 2 yX12_fewest cX12_fewest (some .int) Γ (rhe1I Γ) (f_X12_fewest Γ M v0) 0 [(0, rhR v0)] [] Γ M := by
  intro M v0
  rw [f_X12_fewest]
  refine rhF.aload_n (pc := 0) dX12_fewest_0 0 rfl ?_
  refine rhF.iconst (pc := 1) (v := 0) dX12_fewest_1 (by decide) ?_
  refine rhF.ck (fun h1 => ?_)
  refine rhF.puti (pc := 2) dX12_fewest_2 fl_X12_342 h1 (fun q hq => by cases hq; exact Or.inl rfl) ⟨rfl, rfl⟩ (fun _ => rfl) ?_
  refine rhF.aload_n (pc := 5) dX12_fewest_5 0 rfl ?_
  refine rhF.callV (pc := 6) (ci := 12) (embc := rhe0I _ _) [] dX12_fewest_6 ml_X12_515 mv_X12_isMany ⟨_, rfl, rfl⟩ h1 (c_X12_isMany _ _ _ _) (by decide) (by decide) rfl (Nat.le_of_ble_eq_true rfl) (fun r3 _ => ?_)
  refine rhF.if_eq (pc := 9) 15 dX12_fewest_9 (by decide) (fun h4 => ?_) (fun h4 => ?_)
  · refine rhF.aload_n (pc := 15) dX12_fewest_15 0 rfl ?_
    refine rhF.iconst (pc := 16) (v := 0) dX12_fewest_16 (by decide) ?_
    refine rhF.ldc (pc := 17) dX12_fewest_17 k_X12_122 ?_
    refine rhF.callV (pc := 19) (ci := 12) (embc := rhe1I _) [rhI _, rhI _] dX12_fewest_19 ml_X12_518 mv_X12_search ⟨_, rfl, rfl⟩ h1 (c_X12_search _ _ _ _ _ _) (by decide) (by decide) rfl (Nat.le_of_ble_eq_true rfl) (fun r5 _ => ?_)
    refine rhF.istore_n (pc := 22) (L' := [(1, rhI _), (0, rhR _)]) dX12_fewest_22 (by decide) rfl ?_
    refine rhF.iload_n (pc := 23) dX12_fewest_23 0 rfl ?_
    refine rhF.if_ge (pc := 24) 29 dX12_fewest_24 (by decide) (fun h7 => ?_) (fun h7 => ?_)
    · refine rhF.iconst (pc := 27) (v := (-1)) dX12_fewest_27 (by decide) ?_
      exact rhF.zret (pc := 28) dX12_fewest_28 rfl rfl rfl
    · refine rhF.aload_n (pc := 29) dX12_fewest_29 1 rfl ?_
      refine rhF.iload_n (pc := 30) dX12_fewest_30 0 rfl ?_
      refine rhF.callV (pc := 31) (ci := 12) (embc := rhe1U _) [rhI _] dX12_fewest_31 ml_X12_521 mv_X12_layWay ⟨_, rfl, rfl⟩ h1 (c_X12_layWay _ _ _ _ _) (by decide) (by decide) rfl (Nat.le_of_ble_eq_true rfl) (fun r8 _ => ?_)
      refine rhF.aload_n (pc := 34) dX12_fewest_34 1 rfl ?_
      refine rhF.get (pc := 35) (rhI _) dX12_fewest_35 fl_X12_342 h1 rfl ?_
      exact rhF.zret (pc := 38) dX12_fewest_38 rfl rfl rfl
  · refine rhF.bipush (pc := 12) (v := (-2)) dX12_fewest_12 (by decide) ?_
    exact rhF.zret (pc := 14) dX12_fewest_14 rfl rfl rfl
theorem c_X12_fewest (E : rhE) (Γ : rhG) (M : rhM) (v0 : Nat) : ∀ a, f_X12_fewest Γ M v0 = some a → rhC E 11 yX12_fewest cX12_fewest 2 (some .int) [rhR v0] Γ M ((rhe1I Γ) a) := rhF.met (by decide +kernel) (Nat.le_of_ble_eq_true rfl) (b_X12_fewest M v0)
def f_X12_fits (Γ : rhG) (M : rhM) (v0 : Nat) (v1 : Int32) (v2 : Int32) : Option (Int32 × rhM) :=
  (f_X12_isIn Γ M v1 (0 : Int32) (3 : Int32)).bind fun r1 =>
  if r1 = 0 then
    (some (((-1), M)))
  else
    rhck (Γ.2.2.1 v0 = 13) <|
    (f_X12_rowsOf Γ M v0 v1 v2).bind fun r4 =>
    some ((r4.1, r4.2))
set_option maxHeartbeats 4000000 in
set_option maxRecDepth 100000 in
theorem b_X12_fits {E : rhE} {Γ : rhG} : ∀ (M : rhM) (v0 : Nat) (v1 : Int32) (v2 : Int32), rhF E 11 3 yX12_fits cX12_fits (some .int) Γ (rhe1I Γ) (f_X12_fits Γ M v0 v1 v2) 0 [(0, rhR v0), (1, rhI v1), (2, rhI v2)] [] Γ M := by
  intro M v0 v1 v2
  rw [f_X12_fits]
  refine rhF.iload_n (pc := 0) dX12_fits_0 1 rfl ?_
  refine rhF.iconst (pc := 1) (v := 0) dX12_fits_1 (by decide) ?_
  refine rhF.iconst (pc := 2) (v := 3) dX12_fits_2 (by decide) ?_
  refine rhF.callS (pc := 3) (embc := rhe0I _ _) [rhI _, rhI _, rhI _] dX12_fits_3 ml_X12_415 ms_X12_isIn (c_X12_isIn _ _ _ _ _ _) (by decide) (by decide) rfl (Nat.le_of_ble_eq_true rfl) (fun r1 _ => ?_)
  refine rhF.if_eq (pc := 6) 18 dX12_fits_6 (by decide) (fun h2 => ?_) (fun h2 => ?_)
  · refine rhF.iconst (pc := 18) (v := (-1)) dX12_fits_18 (by decide) ?_
    exact rhF.zret (pc := 19) dX12_fits_19 rfl rfl rfl
  · refine rhF.aload_n (pc := 9) dX12_fits_9 0 rfl ?_
    refine rhF.iload_n (pc := 10) dX12_fits_10 1 rfl ?_
    refine rhF.iload_n (pc := 11) dX12_fits_11 2 rfl ?_
    refine rhF.ck (fun h3 => ?_)
    refine rhF.callV (pc := 12) (ci := 12) (embc := rhe1I _) [rhI _, rhI _] dX12_fits_12 ml_X12_577 mv_X12_rowsOf ⟨_, rfl, rfl⟩ h3 (c_X12_rowsOf _ _ _ _ _ _) (by decide) (by decide) rfl (Nat.le_of_ble_eq_true rfl) (fun r4 _ => ?_)
    refine rhF.goto (pc := 15) 19 dX12_fits_15 (by decide) ?_
    exact rhF.zret (pc := 19) dX12_fits_19 rfl rfl rfl
theorem c_X12_fits (E : rhE) (Γ : rhG) (M : rhM) (v0 : Nat) (v1 : Int32) (v2 : Int32) : ∀ a, f_X12_fits Γ M v0 v1 v2 = some a → rhC E 11 yX12_fits cX12_fits 3 (some .int) [rhR v0, rhI v1, rhI v2] Γ M ((rhe1I Γ) a) := rhF.met (by decide +kernel) (Nat.le_of_ble_eq_true rfl) (b_X12_fits M v0 v1 v2)
def f_X12_free (Γ : rhG) (M : rhM) (v0 : Nat) (v1 : Int32) : Option (Int32 × rhM) :=
  rhck (Γ.2.2.1 v0 = 13) <|
  let M2 := rhsi M v0 66 0
  (f_X12_isHouse Γ M2 v0 v1).bind fun r3 =>
  if r3 = 0 then
    (some (((-1), M2)))
  else
    (f_X12_isMany Γ M2 v0).bind fun r5 =>
    if r5 = 0 then
      (let M7 := rhsi M2 v0 62 v1
      (f_X12_search Γ M7 v0 (1 : Int32) (246960 : Int32)).bind fun r8 =>
      let x9 := r8.1
      if x9 < 0 then
        (some (((-1), r8.2)))
      else
        (f_X12_layWay Γ r8.2 v0 x9).bind fun r11 =>
        some ((r11.1 v0 66, r11)))
    else
      some (((-2), M2))
set_option maxHeartbeats 4000000 in
set_option maxRecDepth 100000 in
theorem b_X12_free {E : rhE} {Γ : rhG} : ∀ (M : rhM) (v0 : Nat) (v1 : Int32), rhF E 11 3 yX12_free cX12_free (some .int) Γ (rhe1I Γ) (f_X12_free Γ M v0 v1) 0 [(0, rhR v0), (1, rhI v1)] [] Γ M := by
  intro M v0 v1
  rw [f_X12_free]
  refine rhF.aload_n (pc := 0) dX12_free_0 0 rfl ?_
  refine rhF.iconst (pc := 1) (v := 0) dX12_free_1 (by decide) ?_
  refine rhF.ck (fun h1 => ?_)
  refine rhF.puti (pc := 2) dX12_free_2 fl_X12_342 h1 (fun q hq => by cases hq; exact Or.inl rfl) ⟨rfl, rfl⟩ (fun _ => rfl) ?_
  refine rhF.aload_n (pc := 5) dX12_free_5 0 rfl ?_
  refine rhF.iload_n (pc := 6) dX12_free_6 1 rfl ?_
  refine rhF.callV (pc := 7) (ci := 12) (embc := rhe0I _ _) [rhI _] dX12_free_7 ml_X12_464 mv_X12_isHouse ⟨_, rfl, rfl⟩ h1 (c_X12_isHouse _ _ _ _ _) (by decide) (by decide) rfl (Nat.le_of_ble_eq_true rfl) (fun r3 _ => ?_)
  refine rhF.if_ne (pc := 10) 15 dX12_free_10 (by decide) (fun h4 => ?_) (fun h4 => ?_)
  · refine rhF.iconst (pc := 13) (v := (-1)) dX12_free_13 (by decide) ?_
    exact rhF.zret (pc := 14) dX12_free_14 rfl rfl rfl
  · refine rhF.aload_n (pc := 15) dX12_free_15 0 rfl ?_
    refine rhF.callV (pc := 16) (ci := 12) (embc := rhe0I _ _) [] dX12_free_16 ml_X12_515 mv_X12_isMany ⟨_, rfl, rfl⟩ h1 (c_X12_isMany _ _ _ _) (by decide) (by decide) rfl (Nat.le_of_ble_eq_true rfl) (fun r5 _ => ?_)
    refine rhF.if_eq (pc := 19) 25 dX12_free_19 (by decide) (fun h6 => ?_) (fun h6 => ?_)
    · refine rhF.aload_n (pc := 25) dX12_free_25 0 rfl ?_
      refine rhF.iload_n (pc := 26) dX12_free_26 1 rfl ?_
      refine rhF.puti (pc := 27) dX12_free_27 fl_X12_484 h1 (fun q hq => by cases hq; exact Or.inl rfl) ⟨rfl, rfl⟩ (fun _ => rfl) ?_
      refine rhF.aload_n (pc := 30) dX12_free_30 0 rfl ?_
      refine rhF.iconst (pc := 31) (v := 1) dX12_free_31 (by decide) ?_
      refine rhF.ldc (pc := 32) dX12_free_32 k_X12_122 ?_
      refine rhF.callV (pc := 34) (ci := 12) (embc := rhe1I _) [rhI _, rhI _] dX12_free_34 ml_X12_518 mv_X12_search ⟨_, rfl, rfl⟩ h1 (c_X12_search _ _ _ _ _ _) (by decide) (by decide) rfl (Nat.le_of_ble_eq_true rfl) (fun r8 _ => ?_)
      refine rhF.istore_n (pc := 37) (L' := [(2, rhI _), (0, rhR _), (1, rhI _)]) dX12_free_37 (by decide) rfl ?_
      refine rhF.iload_n (pc := 38) dX12_free_38 0 rfl ?_
      refine rhF.if_ge (pc := 39) 44 dX12_free_39 (by decide) (fun h10 => ?_) (fun h10 => ?_)
      · refine rhF.iconst (pc := 42) (v := (-1)) dX12_free_42 (by decide) ?_
        exact rhF.zret (pc := 43) dX12_free_43 rfl rfl rfl
      · refine rhF.aload_n (pc := 44) dX12_free_44 1 rfl ?_
        refine rhF.iload_n (pc := 45) dX12_free_45 0 rfl ?_
        refine rhF.callV (pc := 46) (ci := 12) (embc := rhe1U _) [rhI _] dX12_free_46 ml_X12_521 mv_X12_layWay ⟨_, rfl, rfl⟩ h1 (c_X12_layWay _ _ _ _ _) (by decide) (by decide) rfl (Nat.le_of_ble_eq_true rfl) (fun r11 _ => ?_)
        refine rhF.aload_n (pc := 49) dX12_free_49 1 rfl ?_
        refine rhF.get (pc := 50) (rhI _) dX12_free_50 fl_X12_342 h1 rfl ?_
        exact rhF.zret (pc := 53) dX12_free_53 rfl rfl rfl
    · refine rhF.bipush (pc := 22) (v := (-2)) dX12_free_22 (by decide) ?_
      exact rhF.zret (pc := 24) dX12_free_24 rfl rfl rfl
theorem c_X12_free (E : rhE) (Γ : rhG) (M : rhM) (v0 : Nat) (v1 : Int32) : ∀ a, f_X12_free Γ M v0 v1 = some a → rhC E 11 yX12_free cX12_free 3 (some .int) [rhR v0, rhI v1] Γ M ((rhe1I Γ) a) := rhF.met (by decide +kernel) (Nat.le_of_ble_eq_true rfl) (b_X12_free M v0 v1)
def f_X12_fresh_37 (Γ : rhG) (M : rhM) (v0 : Nat) : Option (Int64 × rhM) :=
  rhck (Γ.2.2.1 v0 = 13) <|
  let x7 := M.2.1 v0 10
  (f_X12_isGood Γ M v0).bind fun r8 =>
  if r8 = 0 then
    (some ((x7, M)))
  else
    (f_X12_goOn Γ M v0).bind fun r10 =>
    some ((x7, r10))
def f_X12_fresh (Γ : rhG) (M : rhM) (v0 : Nat) (v1 : Int32) : Option (Int64 × rhM) :=
  rhck (Γ.2.2.1 v0 = 13) <|
  (f_X12_isGood Γ M v0).bind fun r2 =>
  if r2 = 0 then
    (some (((0 : Int64), M)))
  else
    if (M.1 v0 8) = 2 then
      (if v1 = 0 then
        (f_X12_fresh_37 Γ M v0)
      else
        (f_X12_fails Γ M v0 (3 : Int32) (M.1 v0 6)).bind fun r11 =>
        f_X12_fresh_37 Γ r11 v0)
    else
      (f_X12_misplaced Γ M v0).bind fun r12 =>
      f_X12_fresh_37 Γ r12 v0
set_option maxHeartbeats 4000000 in
set_option maxRecDepth 100000 in
theorem b_X12_fresh_37 {E : rhE} {Γ : rhG} : ∀ (M : rhM) (v0 : Nat), rhF E 6 4 yX12_fresh cX12_fresh (some .long) Γ (rhe1J Γ) (f_X12_fresh_37 Γ M v0) 37 [(0, rhR v0)] [] Γ M := by
  intro M v0
  rw [f_X12_fresh_37]
  refine rhF.aload_n (pc := 37) dX12_fresh_37 0 rfl ?_
  refine rhF.ck (fun h6 => ?_)
  refine rhF.get (pc := 38) (rhJ _) dX12_fresh_38 fl_X12_273 h6 rfl ?_
  refine rhF.lstore_n (pc := 41) (L' := [(2, rhJ _), (0, rhR _)]) dX12_fresh_41 (by decide) rfl ?_
  refine rhF.aload_n (pc := 42) dX12_fresh_42 1 rfl ?_
  refine rhF.callV (pc := 43) (ci := 12) (embc := rhe0I _ _) [] dX12_fresh_43 ml_X12_294 mv_X12_isGood ⟨_, rfl, rfl⟩ h6 (c_X12_isGood _ _ _ _) (by decide) (by decide) rfl (Nat.le_of_ble_eq_true rfl) (fun r8 _ => ?_)
  refine rhF.if_eq (pc := 46) 53 dX12_fresh_46 (by decide) (fun h9 => ?_) (fun h9 => ?_)
  · refine rhF.lload_n (pc := 53) dX12_fresh_53 0 rfl ?_
    exact rhF.lret (pc := 54) dX12_fresh_54 rfl rfl
  · refine rhF.aload_n (pc := 49) dX12_fresh_49 1 rfl ?_
    refine rhF.callV (pc := 50) (ci := 12) (embc := rhe1U _) [] dX12_fresh_50 ml_X12_298 mv_X12_goOn ⟨_, rfl, rfl⟩ h6 (c_X12_goOn _ _ _ _) (by decide) (by decide) rfl (Nat.le_of_ble_eq_true rfl) (fun r10 _ => ?_)
    refine rhF.lload_n (pc := 53) dX12_fresh_53 0 rfl ?_
    exact rhF.lret (pc := 54) dX12_fresh_54 rfl rfl
set_option maxHeartbeats 4000000 in
set_option maxRecDepth 100000 in
theorem b_X12_fresh {E : rhE} {Γ : rhG} : ∀ (M : rhM) (v0 : Nat) (v1 : Int32), rhF E 6 4 yX12_fresh cX12_fresh (some .long) Γ (rhe1J Γ) (f_X12_fresh Γ M v0 v1) 0 [(0, rhR v0), (1, rhI v1)] [] Γ M := by
  intro M v0 v1
  rw [f_X12_fresh]
  refine rhF.aload_n (pc := 0) dX12_fresh_0 0 rfl ?_
  refine rhF.ck (fun h1 => ?_)
  refine rhF.callV (pc := 1) (ci := 12) (embc := rhe0I _ _) [] dX12_fresh_1 ml_X12_294 mv_X12_isGood ⟨_, rfl, rfl⟩ h1 (c_X12_isGood _ _ _ _) (by decide) (by decide) rfl (Nat.le_of_ble_eq_true rfl) (fun r2 _ => ?_)
  refine rhF.if_ne (pc := 4) 9 dX12_fresh_4 (by decide) (fun h3 => ?_) (fun h3 => ?_)
  · refine rhF.lconst (pc := 7) (v := 0) dX12_fresh_7 (by decide) ?_
    exact rhF.lret (pc := 8) dX12_fresh_8 rfl rfl
  · refine rhF.aload_n (pc := 9) dX12_fresh_9 0 rfl ?_
    refine rhF.get (pc := 10) (rhI _) dX12_fresh_10 fl_X12_266 h1 rfl ?_
    refine rhF.iconst (pc := 13) (v := 2) dX12_fresh_13 (by decide) ?_
    refine rhF.icmp_eq (pc := 14) 24 dX12_fresh_14 (by decide) (fun h4 => ?_) (fun h4 => ?_)
    · refine rhF.iload_n (pc := 24) dX12_fresh_24 1 rfl ?_
      refine rhF.if_eq (pc := 25) 37 dX12_fresh_25 (by decide) (fun h5 => ?_) (fun h5 => ?_)
      · refine rhF.sub [0] rfl ?_
        exact (b_X12_fresh_37) _ _
      · refine rhF.aload_n (pc := 28) dX12_fresh_28 0 rfl ?_
        refine rhF.iconst (pc := 29) (v := 3) dX12_fresh_29 (by decide) ?_
        refine rhF.aload_n (pc := 30) dX12_fresh_30 0 rfl ?_
        refine rhF.get (pc := 31) (rhI _) dX12_fresh_31 fl_X12_259 h1 rfl ?_
        refine rhF.callV (pc := 34) (ci := 12) (embc := rhe1U _) [rhI _, rhI _] dX12_fresh_34 ml_X12_290 mv_X12_fails ⟨_, rfl, rfl⟩ h1 (c_X12_fails _ _ _ _ _ _) (by decide) (by decide) rfl (Nat.le_of_ble_eq_true rfl) (fun r11 _ => ?_)
        refine rhF.sub [0] rfl ?_
        exact (b_X12_fresh_37) _ _
    · refine rhF.aload_n (pc := 17) dX12_fresh_17 0 rfl ?_
      refine rhF.callV (pc := 18) (ci := 12) (embc := rhe1U _) [] dX12_fresh_18 ml_X12_301 mv_X12_misplaced ⟨_, rfl, rfl⟩ h1 (c_X12_misplaced _ _ _ _) (by decide) (by decide) rfl (Nat.le_of_ble_eq_true rfl) (fun r12 _ => ?_)
      refine rhF.goto (pc := 21) 37 dX12_fresh_21 (by decide) ?_
      refine rhF.sub [0] rfl ?_
      exact (b_X12_fresh_37) _ _
theorem c_X12_fresh (E : rhE) (Γ : rhG) (M : rhM) (v0 : Nat) (v1 : Int32) : ∀ a, f_X12_fresh Γ M v0 v1 = some a → rhC E 6 yX12_fresh cX12_fresh 4 (some .long) [rhR v0, rhI v1] Γ M ((rhe1J Γ) a) := rhF.met (by decide +kernel) (Nat.le_of_ble_eq_true rfl) (b_X12_fresh M v0 v1)
def f_X12_goal_12 (k38 : rhM → Nat → Int32 → Option (Int32 × rhM)) (Γ : rhG) : Nat → rhM → Nat → Int32 → Int32 → Option (Int32 × rhM)
  | 0, _, _, _, _ => none
  | n + 1, M, v0, v1, v2 =>
    rhck (Γ.2.2.1 v0 = 13) <|
    if v2 < (M.1 v0 53) then
      (rhck (Γ.2.2.1 (M.2.2 v0 52) = 15) <|
      rhck (0 ≤ (v2).toInt ∧ (v2).toInt < (Γ.2.2.2 (M.2.2 v0 52) : Nat)) <|
      if (M.1 (M.2.2 v0 52) v2.toNatClampNeg) = v1 then
        (some (((-1), M)))
      else
        let x9 : Int32 := v2 + 1
        f_X12_goal_12 k38 Γ n M v0 v1 x9)
    else
      k38 M v0 v1
def f_X12_goal_38 (Γ : rhG) (M : rhM) (v0 : Nat) (v1 : Int32) : Option (Int32 × rhM) :=
  rhck (Γ.2.2.1 v0 = 13) <|
  rhck (Γ.2.2.1 (M.2.2 v0 52) = 15) <|
  rhck (0 ≤ (M.1 v0 53).toInt ∧ (M.1 v0 53).toInt < (Γ.2.2.2 (M.2.2 v0 52) : Nat)) <|
  let M13 := rhsi M (M.2.2 v0 52) (M.1 v0 53 : Int32).toNatClampNeg v1
  let M14 := rhsi M13 v0 53 ((M13.1 v0 53) + 1)
  some ((M14.1 v0 53, M14))
def f_X12_goal (Γ : rhG) (M : rhM) (v0 : Nat) (v1 : Int32) : Option (Int32 × rhM) :=
  rhck (Γ.2.2.1 v0 = 13) <|
  (f_X12_isHouse Γ M v0 v1).bind fun r2 =>
  if r2 = 0 then
    (some (((-1), M)))
  else
    f_X12_goal_12 (f_X12_goal_38 Γ) Γ rhFU M v0 v1 0
set_option maxHeartbeats 4000000 in
set_option maxRecDepth 100000 in
theorem b_X12_goal_12 {E : rhE} {Γ : rhG} {k38 : rhM → Nat → Int32 → Option (Int32 × rhM)} (hk38 : ∀ (M : rhM) (v0 : Nat) (v1 : Int32), rhF E 6 3 yX12_goal cX12_goal (some .int) Γ (rhe1I Γ) (k38 M v0 v1) 38 [(0, rhR v0), (1, rhI v1)] [] Γ M) : ∀ (n : Nat) (M : rhM) (v0 : Nat) (v1 : Int32) (v2 : Int32), rhF E 6 3 yX12_goal cX12_goal (some .int) Γ (rhe1I Γ) (f_X12_goal_12 k38 Γ n M v0 v1 v2) 12 [(0, rhR v0), (1, rhI v1), (2, rhI v2)] [] Γ M := by
  intro n
  induction n with
  | zero => intro M v0 v1 v2; rw [f_X12_goal_12]; exact rhF.nope
  | succ n ih =>
    intro M v0 v1 v2
    rw [f_X12_goal_12]
    refine rhF.iload_n (pc := 12) dX12_goal_12 2 rfl ?_
    refine rhF.aload_n (pc := 13) dX12_goal_13 0 rfl ?_
    refine rhF.ck (fun h4 => ?_)
    refine rhF.get (pc := 14) (rhI _) dX12_goal_14 fl_X12_339 h4 rfl ?_
    refine rhF.icmp_ge (pc := 17) 38 dX12_goal_17 (by decide) (fun h5 => ?_) (fun h5 => ?_)
    · refine rhF.aload_n (pc := 20) dX12_goal_20 0 rfl ?_
      refine rhF.get (pc := 21) (rhR _) dX12_goal_21 fl_X12_119 h4 rfl ?_
      refine rhF.iload_n (pc := 24) dX12_goal_24 2 rfl ?_
      refine rhF.ck (fun h6 => ?_)
      refine rhF.ck (fun h7 => ?_)
      refine rhF.iald (pc := 25) dX12_goal_25 h6 h7 ?_
      refine rhF.iload_n (pc := 26) dX12_goal_26 1 rfl ?_
      refine rhF.icmp_ne (pc := 27) 32 dX12_goal_27 (by decide) (fun h8 => ?_) (fun h8 => ?_)
      · refine rhF.iconst (pc := 30) (v := (-1)) dX12_goal_30 (by decide) ?_
        exact rhF.zret (pc := 31) dX12_goal_31 rfl rfl rfl
      · refine rhF.iinc (pc := 32) (L' := [(2, rhI _), (0, rhR _), (1, rhI _)]) dX12_goal_32 2 rfl rfl (by decide) rfl ?_
        refine rhF.goto (pc := 35) 12 dX12_goal_35 (by decide) ?_
        refine rhF.sub [1, 2, 0] rfl ?_
        exact ih _ _ _ _
    · refine rhF.sub [0, 1] rfl ?_
      exact hk38 _ _ _
set_option maxHeartbeats 4000000 in
set_option maxRecDepth 100000 in
theorem b_X12_goal_38 {E : rhE} {Γ : rhG} : ∀ (M : rhM) (v0 : Nat) (v1 : Int32), rhF E 6 3 yX12_goal cX12_goal (some .int) Γ (rhe1I Γ) (f_X12_goal_38 Γ M v0 v1) 38 [(0, rhR v0), (1, rhI v1)] [] Γ M := by
  intro M v0 v1
  rw [f_X12_goal_38]
  refine rhF.aload_n (pc := 38) dX12_goal_38 0 rfl ?_
  refine rhF.ck (fun h10 => ?_)
  refine rhF.get (pc := 39) (rhR _) dX12_goal_39 fl_X12_119 h10 rfl ?_
  refine rhF.aload_n (pc := 42) dX12_goal_42 0 rfl ?_
  refine rhF.get (pc := 43) (rhI _) dX12_goal_43 fl_X12_339 h10 rfl ?_
  refine rhF.iload_n (pc := 46) dX12_goal_46 1 rfl ?_
  refine rhF.ck (fun h11 => ?_)
  refine rhF.ck (fun h12 => ?_)
  refine rhF.iast (pc := 47) dX12_goal_47 h11 h12 ?_
  refine rhF.aload_n (pc := 48) dX12_goal_48 0 rfl ?_
  refine rhF.dupr (pc := 49) dX12_goal_49 ?_
  refine rhF.get (pc := 50) (rhI _) dX12_goal_50 fl_X12_339 h10 rfl ?_
  refine rhF.iconst (pc := 53) (v := 1) dX12_goal_53 (by decide) ?_
  refine rhF.iadd (pc := 54) dX12_goal_54 ?_
  refine rhF.puti (pc := 55) dX12_goal_55 fl_X12_339 h10 (fun q hq => by cases hq; exact Or.inl rfl) ⟨rfl, rfl⟩ (fun _ => rfl) ?_
  refine rhF.aload_n (pc := 58) dX12_goal_58 0 rfl ?_
  refine rhF.get (pc := 59) (rhI _) dX12_goal_59 fl_X12_339 h10 rfl ?_
  exact rhF.zret (pc := 62) dX12_goal_62 rfl rfl rfl
set_option maxHeartbeats 4000000 in
set_option maxRecDepth 100000 in
theorem b_X12_goal {E : rhE} {Γ : rhG} : ∀ (M : rhM) (v0 : Nat) (v1 : Int32), rhF E 6 3 yX12_goal cX12_goal (some .int) Γ (rhe1I Γ) (f_X12_goal Γ M v0 v1) 0 [(0, rhR v0), (1, rhI v1)] [] Γ M := by
  intro M v0 v1
  rw [f_X12_goal]
  refine rhF.aload_n (pc := 0) dX12_goal_0 0 rfl ?_
  refine rhF.iload_n (pc := 1) dX12_goal_1 1 rfl ?_
  refine rhF.ck (fun h1 => ?_)
  refine rhF.callV (pc := 2) (ci := 12) (embc := rhe0I _ _) [rhI _] dX12_goal_2 ml_X12_464 mv_X12_isHouse ⟨_, rfl, rfl⟩ h1 (c_X12_isHouse _ _ _ _ _) (by decide) (by decide) rfl (Nat.le_of_ble_eq_true rfl) (fun r2 _ => ?_)
  refine rhF.if_ne (pc := 5) 10 dX12_goal_5 (by decide) (fun h3 => ?_) (fun h3 => ?_)
  · refine rhF.iconst (pc := 8) (v := (-1)) dX12_goal_8 (by decide) ?_
    exact rhF.zret (pc := 9) dX12_goal_9 rfl rfl rfl
  · refine rhF.iconst (pc := 10) (v := 0) dX12_goal_10 (by decide) ?_
    refine rhF.istore_n (pc := 11) (L' := [(2, rhI _), (0, rhR _), (1, rhI _)]) dX12_goal_11 (by decide) rfl ?_
    refine rhF.sub [1, 2, 0] rfl ?_
    exact (b_X12_goal_12 (b_X12_goal_38) rhFU) _ _ _ _
theorem c_X12_goal (E : rhE) (Γ : rhG) (M : rhM) (v0 : Nat) (v1 : Int32) : ∀ a, f_X12_goal Γ M v0 v1 = some a → rhC E 6 yX12_goal cX12_goal 3 (some .int) [rhR v0, rhI v1] Γ M ((rhe1I Γ) a) := rhF.met (by decide +kernel) (Nat.le_of_ble_eq_true rfl) (b_X12_goal M v0 v1)
def f_X12_hush (Γ : rhG) (M : rhM) (v0 : Nat) : Option (Int32 × rhM) :=
  rhck (Γ.2.2.1 v0 = 13) <|
  let x2 := M.1 v0 51
  let M3 := rhsi M v0 51 0
  some ((x2, M3))
set_option maxHeartbeats 4000000 in
set_option maxRecDepth 100000 in
theorem b_X12_hush {E : rhE} {Γ : rhG} : ∀ (M : rhM) (v0 : Nat), rhF E 1 2 yX12_hush cX12_hush (some .int) Γ (rhe1I Γ) (f_X12_hush Γ M v0) 0 [(0, rhR v0)] [] Γ M := by
  intro M v0
  rw [f_X12_hush]
  refine rhF.aload_n (pc := 0) dX12_hush_0 0 rfl ?_
  refine rhF.ck (fun h1 => ?_)
  refine rhF.get (pc := 1) (rhI _) dX12_hush_1 fl_X12_336 h1 rfl ?_
  refine rhF.istore_n (pc := 4) (L' := [(1, rhI _), (0, rhR _)]) dX12_hush_4 (by decide) rfl ?_
  refine rhF.aload_n (pc := 5) dX12_hush_5 1 rfl ?_
  refine rhF.iconst (pc := 6) (v := 0) dX12_hush_6 (by decide) ?_
  refine rhF.puti (pc := 7) dX12_hush_7 fl_X12_336 h1 (fun q hq => by cases hq; exact Or.inl rfl) ⟨rfl, rfl⟩ (fun _ => rfl) ?_
  refine rhF.iload_n (pc := 10) dX12_hush_10 0 rfl ?_
  exact rhF.zret (pc := 11) dX12_hush_11 rfl rfl rfl
theorem c_X12_hush (E : rhE) (Γ : rhG) (M : rhM) (v0 : Nat) : ∀ a, f_X12_hush Γ M v0 = some a → rhC E 1 yX12_hush cX12_hush 2 (some .int) [rhR v0] Γ M ((rhe1I Γ) a) := rhF.met (by decide +kernel) (Nat.le_of_ble_eq_true rfl) (b_X12_hush M v0)
def f_X12_image_33 (k62 : rhM → Nat → Int32 → Option (Int32 × rhM)) (Γ : rhG) : Nat → rhM → Nat → Int32 → Int32 → Option (Int32 × rhM)
  | 0, _, _, _, _ => none
  | n + 1, M, v0, v1, v2 =>
    if v2 < 8 then
      (rhck (Γ.2.2.1 v0 = 13) <|
      rhck (Γ.2.2.1 (M.2.2 v0 42) = 15) <|
      rhck (0 ≤ (v2).toInt ∧ (v2).toInt < (Γ.2.2.2 (M.2.2 v0 42) : Nat)) <|
      rhck (Γ.2.2.1 (M.2.2 v0 86) = 15) <|
      rhck (0 ≤ ((8 * v1) + v2).toInt ∧ ((8 * v1) + v2).toInt < (Γ.2.2.2 (M.2.2 v0 86) : Nat)) <|
      let M16 := rhsi M (M.2.2 v0 86) ((8 * v1) + v2 : Int32).toNatClampNeg (M.1 (M.2.2 v0 42) v2.toNatClampNeg)
      let x17 : Int32 := v2 + 1
      f_X12_image_33 k62 Γ n M16 v0 v1 x17)
    else
      k62 M v0 v1
def f_X12_image_64 (k92 : rhM → Nat → Int32 → Option (Int32 × rhM)) (Γ : rhG) : Nat → rhM → Nat → Int32 → Int32 → Option (Int32 × rhM)
  | 0, _, _, _, _ => none
  | n + 1, M, v0, v1, v2 =>
    if v2 < 5 then
      (rhck (Γ.2.2.1 v0 = 13) <|
      rhck (Γ.2.2.1 (M.2.2 v0 43) = 15) <|
      rhck (0 ≤ (v2).toInt ∧ (v2).toInt < (Γ.2.2.2 (M.2.2 v0 43) : Nat)) <|
      rhck (Γ.2.2.1 (M.2.2 v0 87) = 15) <|
      rhck (0 ≤ ((6 * v1) + v2).toInt ∧ ((6 * v1) + v2).toInt < (Γ.2.2.2 (M.2.2 v0 87) : Nat)) <|
      let M24 := rhsi M (M.2.2 v0 87) ((6 * v1) + v2 : Int32).toNatClampNeg (M.1 (M.2.2 v0 43) v2.toNatClampNeg)
      let x25 : Int32 := v2 + 1
      f_X12_image_64 k92 Γ n M24 v0 v1 x25)
    else
      k92 M v0 v1
def f_X12_image_94 (Γ : rhG) : Nat → rhM → Nat → Int32 → Int32 → Option (Int32 × rhM)
  | 0, _, _, _, _ => none
  | n + 1, M, v0, v1, v2 =>
    rhck (Γ.2.2.1 v0 = 13) <|
    if v2 < (M.1 v0 48) then
      (rhck (Γ.2.2.1 (M.2.2 v0 46) = 15) <|
      rhck (0 ≤ (v2).toInt ∧ (v2).toInt < (Γ.2.2.2 (M.2.2 v0 46) : Nat)) <|
      rhck (Γ.2.2.1 (M.2.2 v0 88) = 15) <|
      rhck (0 ≤ ((300 * v1) + v2).toInt ∧ ((300 * v1) + v2).toInt < (Γ.2.2.2 (M.2.2 v0 88) : Nat)) <|
      let M32 := rhsi M (M.2.2 v0 88) ((300 * v1) + v2 : Int32).toNatClampNeg (M.1 (M.2.2 v0 46) v2.toNatClampNeg)
      rhck (Γ.2.2.1 (M.2.2 v0 47) = 15) <|
      rhck (0 ≤ (v2).toInt ∧ (v2).toInt < (Γ.2.2.2 (M.2.2 v0 47) : Nat)) <|
      rhck (Γ.2.2.1 (M.2.2 v0 89) = 15) <|
      rhck (0 ≤ ((300 * v1) + v2).toInt ∧ ((300 * v1) + v2).toInt < (Γ.2.2.2 (M.2.2 v0 89) : Nat)) <|
      let M37 := rhsi M32 (M.2.2 v0 89) ((300 * v1) + v2 : Int32).toNatClampNeg (M32.1 (M.2.2 v0 47) v2.toNatClampNeg)
      let x38 : Int32 := v2 + 1
      f_X12_image_94 Γ n M37 v0 v1 x38)
    else
      some ((M.1 v0 48, M))
def f_X12_image_92 (Γ : rhG) (M : rhM) (v0 : Nat) (v1 : Int32) : Option (Int32 × rhM) :=
  f_X12_image_94 Γ rhFU M v0 v1 0
def f_X12_image_62 (Γ : rhG) (M : rhM) (v0 : Nat) (v1 : Int32) : Option (Int32 × rhM) :=
  f_X12_image_64 (f_X12_image_92 Γ) Γ rhFU M v0 v1 0
def f_X12_image (Γ : rhG) (M : rhM) (v0 : Nat) (v1 : Int32) : Option (Int32 × rhM) :=
  (f_X12_isIn Γ M v1 (0 : Int32) (2 : Int32)).bind fun r1 =>
  if r1 = 0 then
    (some (((-1), M)))
  else
    rhck (Γ.2.2.1 v0 = 13) <|
    rhck (Γ.2.2.1 (M.2.2 v0 84) = 15) <|
    rhck (0 ≤ (v1).toInt ∧ (v1).toInt < (Γ.2.2.2 (M.2.2 v0 84) : Nat)) <|
    let M6 := rhsi M (M.2.2 v0 84) (v1 : Int32).toNatClampNeg (M.1 v0 48)
    rhck (Γ.2.2.1 (M.2.2 v0 85) = 15) <|
    rhck (0 ≤ (v1).toInt ∧ (v1).toInt < (Γ.2.2.2 (M.2.2 v0 85) : Nat)) <|
    let M9 := rhsi M6 (M.2.2 v0 85) (v1 : Int32).toNatClampNeg (M6.1 v0 49)
    f_X12_image_33 (f_X12_image_62 Γ) Γ rhFU M9 v0 v1 0
set_option maxHeartbeats 4000000 in
set_option maxRecDepth 100000 in
theorem b_X12_image_33 {E : rhE} {Γ : rhG} {k62 : rhM → Nat → Int32 → Option (Int32 × rhM)} (hk62 : ∀ (M : rhM) (v0 : Nat) (v1 : Int32), rhF E 5 3 yX12_image cX12_image (some .int) Γ (rhe1I Γ) (k62 M v0 v1) 62 [(0, rhR v0), (1, rhI v1)] [] Γ M) : ∀ (n : Nat) (M : rhM) (v0 : Nat) (v1 : Int32) (v2 : Int32), rhF E 5 3 yX12_image cX12_image (some .int) Γ (rhe1I Γ) (f_X12_image_33 k62 Γ n M v0 v1 v2) 33 [(0, rhR v0), (1, rhI v1), (2, rhI v2)] [] Γ M := by
  intro n
  induction n with
  | zero => intro M v0 v1 v2; rw [f_X12_image_33]; exact rhF.nope
  | succ n ih =>
    intro M v0 v1 v2
    rw [f_X12_image_33]
    refine rhF.iload_n (pc := 33) dX12_image_33 2 rfl ?_
    refine rhF.bipush (pc := 34) (v := 8) dX12_image_34 (by decide) ?_
    refine rhF.icmp_ge (pc := 36) 62 dX12_image_36 (by decide) (fun h10 => ?_) (fun h10 => ?_)
    · refine rhF.aload_n (pc := 39) dX12_image_39 0 rfl ?_
      refine rhF.ck (fun h11 => ?_)
      refine rhF.get (pc := 40) (rhR _) dX12_image_40 fl_X12_196 h11 rfl ?_
      refine rhF.bipush (pc := 43) (v := 8) dX12_image_43 (by decide) ?_
      refine rhF.iload_n (pc := 45) dX12_image_45 1 rfl ?_
      refine rhF.imul (pc := 46) dX12_image_46 ?_
      refine rhF.iload_n (pc := 47) dX12_image_47 2 rfl ?_
      refine rhF.iadd (pc := 48) dX12_image_48 ?_
      refine rhF.aload_n (pc := 49) dX12_image_49 0 rfl ?_
      refine rhF.get (pc := 50) (rhR _) dX12_image_50 fl_X12_101 h11 rfl ?_
      refine rhF.iload_n (pc := 53) dX12_image_53 2 rfl ?_
      refine rhF.ck (fun h12 => ?_)
      refine rhF.ck (fun h13 => ?_)
      refine rhF.iald (pc := 54) dX12_image_54 h12 h13 ?_
      refine rhF.ck (fun h14 => ?_)
      refine rhF.ck (fun h15 => ?_)
      refine rhF.iast (pc := 55) dX12_image_55 h14 h15 ?_
      refine rhF.iinc (pc := 56) (L' := [(2, rhI _), (0, rhR _), (1, rhI _)]) dX12_image_56 2 rfl rfl (by decide) rfl ?_
      refine rhF.goto (pc := 59) 33 dX12_image_59 (by decide) ?_
      refine rhF.sub [1, 2, 0] rfl ?_
      exact ih _ _ _ _
    · refine rhF.sub [0, 1] rfl ?_
      exact hk62 _ _ _
set_option maxHeartbeats 4000000 in
set_option maxRecDepth 100000 in
theorem b_X12_image_64 {E : rhE} {Γ : rhG} {k92 : rhM → Nat → Int32 → Option (Int32 × rhM)} (hk92 : ∀ (M : rhM) (v0 : Nat) (v1 : Int32), rhF E 5 3 yX12_image cX12_image (some .int) Γ (rhe1I Γ) (k92 M v0 v1) 92 [(0, rhR v0), (1, rhI v1)] [] Γ M) : ∀ (n : Nat) (M : rhM) (v0 : Nat) (v1 : Int32) (v2 : Int32), rhF E 5 3 yX12_image cX12_image (some .int) Γ (rhe1I Γ) (f_X12_image_64 k92 Γ n M v0 v1 v2) 64 [(0, rhR v0), (1, rhI v1), (2, rhI v2)] [] Γ M := by
  intro n
  induction n with
  | zero => intro M v0 v1 v2; rw [f_X12_image_64]; exact rhF.nope
  | succ n ih =>
    intro M v0 v1 v2
    rw [f_X12_image_64]
    refine rhF.iload_n (pc := 64) dX12_image_64 2 rfl ?_
    refine rhF.iconst (pc := 65) (v := 5) dX12_image_65 (by decide) ?_
    refine rhF.icmp_ge (pc := 66) 92 dX12_image_66 (by decide) (fun h18 => ?_) (fun h18 => ?_)
    · refine rhF.aload_n (pc := 69) dX12_image_69 0 rfl ?_
      refine rhF.ck (fun h19 => ?_)
      refine rhF.get (pc := 70) (rhR _) dX12_image_70 fl_X12_199 h19 rfl ?_
      refine rhF.bipush (pc := 73) (v := 6) dX12_image_73 (by decide) ?_
      refine rhF.iload_n (pc := 75) dX12_image_75 1 rfl ?_
      refine rhF.imul (pc := 76) dX12_image_76 ?_
      refine rhF.iload_n (pc := 77) dX12_image_77 2 rfl ?_
      refine rhF.iadd (pc := 78) dX12_image_78 ?_
      refine rhF.aload_n (pc := 79) dX12_image_79 0 rfl ?_
      refine rhF.get (pc := 80) (rhR _) dX12_image_80 fl_X12_104 h19 rfl ?_
      refine rhF.iload_n (pc := 83) dX12_image_83 2 rfl ?_
      refine rhF.ck (fun h20 => ?_)
      refine rhF.ck (fun h21 => ?_)
      refine rhF.iald (pc := 84) dX12_image_84 h20 h21 ?_
      refine rhF.ck (fun h22 => ?_)
      refine rhF.ck (fun h23 => ?_)
      refine rhF.iast (pc := 85) dX12_image_85 h22 h23 ?_
      refine rhF.iinc (pc := 86) (L' := [(2, rhI _), (0, rhR _), (1, rhI _)]) dX12_image_86 2 rfl rfl (by decide) rfl ?_
      refine rhF.goto (pc := 89) 64 dX12_image_89 (by decide) ?_
      refine rhF.sub [1, 2, 0] rfl ?_
      exact ih _ _ _ _
    · refine rhF.sub [0, 1] rfl ?_
      exact hk92 _ _ _
set_option maxHeartbeats 4000000 in
set_option maxRecDepth 100000 in
theorem b_X12_image_94 {E : rhE} {Γ : rhG} : ∀ (n : Nat) (M : rhM) (v0 : Nat) (v1 : Int32) (v2 : Int32), rhF E 5 3 yX12_image cX12_image (some .int) Γ (rhe1I Γ) (f_X12_image_94 Γ n M v0 v1 v2) 94 [(0, rhR v0), (1, rhI v1), (2, rhI v2)] [] Γ M := by
  intro n
  induction n with
  | zero => intro M v0 v1 v2; rw [f_X12_image_94]; exact rhF.nope
  | succ n ih =>
    intro M v0 v1 v2
    rw [f_X12_image_94]
    refine rhF.iload_n (pc := 94) dX12_image_94 2 rfl ?_
    refine rhF.aload_n (pc := 95) dX12_image_95 0 rfl ?_
    refine rhF.ck (fun h26 => ?_)
    refine rhF.get (pc := 96) (rhI _) dX12_image_96 fl_X12_458 h26 rfl ?_
    refine rhF.icmp_ge (pc := 99) 144 dX12_image_99 (by decide) (fun h27 => ?_) (fun h27 => ?_)
    · refine rhF.aload_n (pc := 102) dX12_image_102 0 rfl ?_
      refine rhF.get (pc := 103) (rhR _) dX12_image_103 fl_X12_202 h26 rfl ?_
      refine rhF.sipush (pc := 106) (v := 300) dX12_image_106 (by decide) ?_
      refine rhF.iload_n (pc := 109) dX12_image_109 1 rfl ?_
      refine rhF.imul (pc := 110) dX12_image_110 ?_
      refine rhF.iload_n (pc := 111) dX12_image_111 2 rfl ?_
      refine rhF.iadd (pc := 112) dX12_image_112 ?_
      refine rhF.aload_n (pc := 113) dX12_image_113 0 rfl ?_
      refine rhF.get (pc := 114) (rhR _) dX12_image_114 fl_X12_110 h26 rfl ?_
      refine rhF.iload_n (pc := 117) dX12_image_117 2 rfl ?_
      refine rhF.ck (fun h28 => ?_)
      refine rhF.ck (fun h29 => ?_)
      refine rhF.iald (pc := 118) dX12_image_118 h28 h29 ?_
      refine rhF.ck (fun h30 => ?_)
      refine rhF.ck (fun h31 => ?_)
      refine rhF.iast (pc := 119) dX12_image_119 h30 h31 ?_
      refine rhF.aload_n (pc := 120) dX12_image_120 0 rfl ?_
      refine rhF.get (pc := 121) (rhR _) dX12_image_121 fl_X12_205 h26 rfl ?_
      refine rhF.sipush (pc := 124) (v := 300) dX12_image_124 (by decide) ?_
      refine rhF.iload_n (pc := 127) dX12_image_127 1 rfl ?_
      refine rhF.imul (pc := 128) dX12_image_128 ?_
      refine rhF.iload_n (pc := 129) dX12_image_129 2 rfl ?_
      refine rhF.iadd (pc := 130) dX12_image_130 ?_
      refine rhF.aload_n (pc := 131) dX12_image_131 0 rfl ?_
      refine rhF.get (pc := 132) (rhR _) dX12_image_132 fl_X12_113 h26 rfl ?_
      refine rhF.iload_n (pc := 135) dX12_image_135 2 rfl ?_
      refine rhF.ck (fun h33 => ?_)
      refine rhF.ck (fun h34 => ?_)
      refine rhF.iald (pc := 136) dX12_image_136 h33 h34 ?_
      refine rhF.ck (fun h35 => ?_)
      refine rhF.ck (fun h36 => ?_)
      refine rhF.iast (pc := 137) dX12_image_137 h35 h36 ?_
      refine rhF.iinc (pc := 138) (L' := [(2, rhI _), (0, rhR _), (1, rhI _)]) dX12_image_138 2 rfl rfl (by decide) rfl ?_
      refine rhF.goto (pc := 141) 94 dX12_image_141 (by decide) ?_
      refine rhF.sub [1, 2, 0] rfl ?_
      exact ih _ _ _ _
    · refine rhF.aload_n (pc := 144) dX12_image_144 0 rfl ?_
      refine rhF.get (pc := 145) (rhI _) dX12_image_145 fl_X12_458 h26 rfl ?_
      exact rhF.zret (pc := 148) dX12_image_148 rfl rfl rfl
set_option maxHeartbeats 4000000 in
set_option maxRecDepth 100000 in
theorem b_X12_image_92 {E : rhE} {Γ : rhG} : ∀ (M : rhM) (v0 : Nat) (v1 : Int32), rhF E 5 3 yX12_image cX12_image (some .int) Γ (rhe1I Γ) (f_X12_image_92 Γ M v0 v1) 92 [(0, rhR v0), (1, rhI v1)] [] Γ M := by
  intro M v0 v1
  rw [f_X12_image_92]
  refine rhF.iconst (pc := 92) (v := 0) dX12_image_92 (by decide) ?_
  refine rhF.istore_n (pc := 93) (L' := [(2, rhI _), (0, rhR _), (1, rhI _)]) dX12_image_93 (by decide) rfl ?_
  refine rhF.sub [1, 2, 0] rfl ?_
  exact (b_X12_image_94 rhFU) _ _ _ _
set_option maxHeartbeats 4000000 in
set_option maxRecDepth 100000 in
theorem b_X12_image_62 {E : rhE} {Γ : rhG} : ∀ (M : rhM) (v0 : Nat) (v1 : Int32), rhF E 5 3 yX12_image cX12_image (some .int) Γ (rhe1I Γ) (f_X12_image_62 Γ M v0 v1) 62 [(0, rhR v0), (1, rhI v1)] [] Γ M := by
  intro M v0 v1
  rw [f_X12_image_62]
  refine rhF.iconst (pc := 62) (v := 0) dX12_image_62 (by decide) ?_
  refine rhF.istore_n (pc := 63) (L' := [(2, rhI _), (0, rhR _), (1, rhI _)]) dX12_image_63 (by decide) rfl ?_
  refine rhF.sub [1, 2, 0] rfl ?_
  exact (b_X12_image_64 (b_X12_image_92) rhFU) _ _ _ _
set_option maxHeartbeats 4000000 in
set_option maxRecDepth 100000 in
theorem b_X12_image {E : rhE} {Γ : rhG} : ∀ (M : rhM) (v0 : Nat) (v1 : Int32), rhF E 5 3 yX12_image cX12_image (some .int) Γ (rhe1I Γ) (f_X12_image Γ M v0 v1) 0 [(0, rhR v0), (1, rhI v1)] [] Γ M := by
  intro M v0 v1
  rw [f_X12_image]
  refine rhF.iload_n (pc := 0) dX12_image_0 1 rfl ?_
  refine rhF.iconst (pc := 1) (v := 0) dX12_image_1 (by decide) ?_
  refine rhF.iconst (pc := 2) (v := 2) dX12_image_2 (by decide) ?_
  refine rhF.callS (pc := 3) (embc := rhe0I _ _) [rhI _, rhI _, rhI _] dX12_image_3 ml_X12_415 ms_X12_isIn (c_X12_isIn _ _ _ _ _ _) (by decide) (by decide) rfl (Nat.le_of_ble_eq_true rfl) (fun r1 _ => ?_)
  refine rhF.if_ne (pc := 6) 11 dX12_image_6 (by decide) (fun h2 => ?_) (fun h2 => ?_)
  · refine rhF.iconst (pc := 9) (v := (-1)) dX12_image_9 (by decide) ?_
    exact rhF.zret (pc := 10) dX12_image_10 rfl rfl rfl
  · refine rhF.aload_n (pc := 11) dX12_image_11 0 rfl ?_
    refine rhF.ck (fun h3 => ?_)
    refine rhF.get (pc := 12) (rhR _) dX12_image_12 fl_X12_190 h3 rfl ?_
    refine rhF.iload_n (pc := 15) dX12_image_15 1 rfl ?_
    refine rhF.aload_n (pc := 16) dX12_image_16 0 rfl ?_
    refine rhF.get (pc := 17) (rhI _) dX12_image_17 fl_X12_458 h3 rfl ?_
    refine rhF.ck (fun h4 => ?_)
    refine rhF.ck (fun h5 => ?_)
    refine rhF.iast (pc := 20) dX12_image_20 h4 h5 ?_
    refine rhF.aload_n (pc := 21) dX12_image_21 0 rfl ?_
    refine rhF.get (pc := 22) (rhR _) dX12_image_22 fl_X12_193 h3 rfl ?_
    refine rhF.iload_n (pc := 25) dX12_image_25 1 rfl ?_
    refine rhF.aload_n (pc := 26) dX12_image_26 0 rfl ?_
    refine rhF.get (pc := 27) (rhI _) dX12_image_27 fl_X12_461 h3 rfl ?_
    refine rhF.ck (fun h7 => ?_)
    refine rhF.ck (fun h8 => ?_)
    refine rhF.iast (pc := 30) dX12_image_30 h7 h8 ?_
    refine rhF.iconst (pc := 31) (v := 0) dX12_image_31 (by decide) ?_
    refine rhF.istore_n (pc := 32) (L' := [(2, rhI _), (0, rhR _), (1, rhI _)]) dX12_image_32 (by decide) rfl ?_
    refine rhF.sub [1, 2, 0] rfl ?_
    exact (b_X12_image_33 (b_X12_image_62) rhFU) _ _ _ _
theorem c_X12_image (E : rhE) (Γ : rhG) (M : rhM) (v0 : Nat) (v1 : Int32) : ∀ a, f_X12_image Γ M v0 v1 = some a → rhC E 5 yX12_image cX12_image 3 (some .int) [rhR v0, rhI v1] Γ M ((rhe1I Γ) a) := rhF.met (by decide +kernel) (Nat.le_of_ble_eq_true rfl) (b_X12_image M v0 v1)
def f_X12_init_517 : Nat → rhG → rhM → Nat → Int32 → Option (rhG × rhM)
  | 0, _, _, _, _ => none
  | n + 1, Γ, M, v0, v1 =>
    if v1 < 3 then
      (rhck (Γ.2.2.1 v0 = 13) <|
      rhck (Γ.2.2.1 (M.2.2 v0 84) = 15) <|
      rhck (0 ≤ (v1).toInt ∧ (v1).toInt < (Γ.2.2.2 (M.2.2 v0 84) : Nat)) <|
      let M320 := rhsi M (M.2.2 v0 84) (v1 : Int32).toNatClampNeg ((-1))
      let x321 : Int32 := v1 + 1
      f_X12_init_517 n Γ M320 v0 x321)
    else
      some (Γ, M)
def f_X12_init (Γ : rhG) (M : rhM) (v0 : Nat) : Option (rhG × rhM) :=
  rhck (Γ.2.2.1 v0 = 13) <|
  rhck (0 ≤ (1620 : Int32).toInt ∧ (1620 : Int32).toInt ≤ 67108864) <|
  let M4 := rhmn M (Γ.1 + 1)
  let G3 := rhgn Γ 14 (1620 : Int32).toNatClampNeg (1620 : Int32).toNatClampNeg
  rhck (G3.2.2.1 v0 = 13) <|
  let M6 := rhsr M4 v0 0 ((Γ.1 + 1))
  rhck (0 ≤ (1600 : Int32).toInt ∧ (1600 : Int32).toInt ≤ 67108864) <|
  let M9 := rhmn M6 (G3.1 + 1)
  let G8 := rhgn G3 14 (1600 : Int32).toNatClampNeg (1600 : Int32).toNatClampNeg
  rhck (G8.2.2.1 v0 = 13) <|
  let M11 := rhsr M9 v0 1 ((G3.1 + 1))
  let M12 := rhsi M11 v0 5 ((-1))
  rhck (0 ≤ (2 : Int32).toInt ∧ (2 : Int32).toInt ≤ 67108864) <|
  let M15 := rhmn M12 (G8.1 + 1)
  let G14 := rhgn G8 15 (2 : Int32).toNatClampNeg (2 : Int32).toNatClampNeg
  rhck (G14.2.2.1 v0 = 13) <|
  let M17 := rhsr M15 v0 11 ((G8.1 + 1))
  rhck (0 ≤ (2 : Int32).toInt ∧ (2 : Int32).toInt ≤ 67108864) <|
  let M20 := rhmn M17 (G14.1 + 1)
  let G19 := rhgn G14 15 (2 : Int32).toNatClampNeg (2 : Int32).toNatClampNeg
  rhck (G19.2.2.1 v0 = 13) <|
  let M22 := rhsr M20 v0 12 ((G14.1 + 1))
  rhck (0 ≤ (2 : Int32).toInt ∧ (2 : Int32).toInt ≤ 67108864) <|
  let M25 := rhmn M22 (G19.1 + 1)
  let G24 := rhgn G19 15 (2 : Int32).toNatClampNeg (2 : Int32).toNatClampNeg
  rhck (G24.2.2.1 v0 = 13) <|
  let M27 := rhsr M25 v0 13 ((G19.1 + 1))
  rhck (0 ≤ (2 : Int32).toInt ∧ (2 : Int32).toInt ≤ 67108864) <|
  let M30 := rhmn M27 (G24.1 + 1)
  let G29 := rhgn G24 15 (2 : Int32).toNatClampNeg (2 : Int32).toNatClampNeg
  rhck (G29.2.2.1 v0 = 13) <|
  let M32 := rhsr M30 v0 14 ((G24.1 + 1))
  rhck (0 ≤ (2 : Int32).toInt ∧ (2 : Int32).toInt ≤ 67108864) <|
  let M35 := rhmn M32 (G29.1 + 1)
  let G34 := rhgn G29 15 (2 : Int32).toNatClampNeg (2 : Int32).toNatClampNeg
  rhck (G34.2.2.1 v0 = 13) <|
  let M37 := rhsr M35 v0 15 ((G29.1 + 1))
  rhck (0 ≤ (2 : Int32).toInt ∧ (2 : Int32).toInt ≤ 67108864) <|
  let M40 := rhmn M37 (G34.1 + 1)
  let G39 := rhgn G34 15 (2 : Int32).toNatClampNeg (2 : Int32).toNatClampNeg
  rhck (G39.2.2.1 v0 = 13) <|
  let M42 := rhsr M40 v0 16 ((G34.1 + 1))
  rhck (0 ≤ (2 : Int32).toInt ∧ (2 : Int32).toInt ≤ 67108864) <|
  let M45 := rhmn M42 (G39.1 + 1)
  let G44 := rhgn G39 15 (2 : Int32).toNatClampNeg (2 : Int32).toNatClampNeg
  rhck (G44.2.2.1 v0 = 13) <|
  let M47 := rhsr M45 v0 17 ((G39.1 + 1))
  rhck (0 ≤ (10 : Int32).toInt ∧ (10 : Int32).toInt ≤ 67108864) <|
  let M50 := rhmn M47 (G44.1 + 1)
  let G49 := rhgn G44 15 (10 : Int32).toNatClampNeg (10 : Int32).toNatClampNeg
  rhck (G49.2.2.1 v0 = 13) <|
  let M52 := rhsr M50 v0 18 ((G44.1 + 1))
  rhck (0 ≤ (16 : Int32).toInt ∧ (16 : Int32).toInt ≤ 67108864) <|
  let M55 := rhmn M52 (G49.1 + 1)
  let G54 := rhgn G49 15 (16 : Int32).toNatClampNeg (16 : Int32).toNatClampNeg
  rhck (G54.2.2.1 v0 = 13) <|
  let M57 := rhsr M55 v0 19 ((G49.1 + 1))
  rhck (0 ≤ (16 : Int32).toInt ∧ (16 : Int32).toInt ≤ 67108864) <|
  let M60 := rhmn M57 (G54.1 + 1)
  let G59 := rhgn G54 15 (16 : Int32).toNatClampNeg (16 : Int32).toNatClampNeg
  rhck (G59.2.2.1 v0 = 13) <|
  let M62 := rhsr M60 v0 20 ((G54.1 + 1))
  rhck (0 ≤ (16 : Int32).toInt ∧ (16 : Int32).toInt ≤ 67108864) <|
  let M65 := rhmn M62 (G59.1 + 1)
  let G64 := rhgn G59 15 (16 : Int32).toNatClampNeg (16 : Int32).toNatClampNeg
  rhck (G64.2.2.1 v0 = 13) <|
  let M67 := rhsr M65 v0 21 ((G59.1 + 1))
  rhck (0 ≤ (128 : Int32).toInt ∧ (128 : Int32).toInt ≤ 67108864) <|
  let M70 := rhmn M67 (G64.1 + 1)
  let G69 := rhgn G64 15 (128 : Int32).toNatClampNeg (128 : Int32).toNatClampNeg
  rhck (G69.2.2.1 v0 = 13) <|
  let M72 := rhsr M70 v0 22 ((G64.1 + 1))
  rhck (0 ≤ (2 : Int32).toInt ∧ (2 : Int32).toInt ≤ 67108864) <|
  let M75 := rhmn M72 (G69.1 + 1)
  let G74 := rhgn G69 17 (2 : Int32).toNatClampNeg (2 : Int32).toNatClampNeg
  rhck (G74.2.2.1 v0 = 13) <|
  let M77 := rhsr M75 v0 23 ((G69.1 + 1))
  rhck (0 ≤ (2 : Int32).toInt ∧ (2 : Int32).toInt ≤ 67108864) <|
  let M80 := rhmn M77 (G74.1 + 1)
  let G79 := rhgn G74 17 (2 : Int32).toNatClampNeg (2 : Int32).toNatClampNeg
  rhck (G79.2.2.1 v0 = 13) <|
  let M82 := rhsr M80 v0 24 ((G74.1 + 1))
  rhck (0 ≤ (2 : Int32).toInt ∧ (2 : Int32).toInt ≤ 67108864) <|
  let M85 := rhmn M82 (G79.1 + 1)
  let G84 := rhgn G79 17 (2 : Int32).toNatClampNeg (2 : Int32).toNatClampNeg
  rhck (G84.2.2.1 v0 = 13) <|
  let M87 := rhsr M85 v0 25 ((G79.1 + 1))
  rhck (0 ≤ (128 : Int32).toInt ∧ (128 : Int32).toInt ≤ 67108864) <|
  let M90 := rhmn M87 (G84.1 + 1)
  let G89 := rhgn G84 17 (128 : Int32).toNatClampNeg (128 : Int32).toNatClampNeg
  rhck (G89.2.2.1 v0 = 13) <|
  let M92 := rhsr M90 v0 26 ((G84.1 + 1))
  rhck (0 ≤ (10 : Int32).toInt ∧ (10 : Int32).toInt ≤ 67108864) <|
  let M95 := rhmn M92 (G89.1 + 1)
  let G94 := rhgn G89 16 (10 : Int32).toNatClampNeg (10 : Int32).toNatClampNeg
  rhck (G94.2.2.1 v0 = 13) <|
  let M97 := rhsr M95 v0 27 ((G89.1 + 1))
  rhck (0 ≤ (16 : Int32).toInt ∧ (16 : Int32).toInt ≤ 67108864) <|
  let M100 := rhmn M97 (G94.1 + 1)
  let G99 := rhgn G94 16 (16 : Int32).toNatClampNeg (16 : Int32).toNatClampNeg
  rhck (G99.2.2.1 v0 = 13) <|
  let M102 := rhsr M100 v0 28 ((G94.1 + 1))
  rhck (0 ≤ (1000 : Int32).toInt ∧ (1000 : Int32).toInt ≤ 67108864) <|
  let M105 := rhmn M102 (G99.1 + 1)
  let G104 := rhgn G99 15 (1000 : Int32).toNatClampNeg (1000 : Int32).toNatClampNeg
  rhck (G104.2.2.1 v0 = 13) <|
  let M107 := rhsr M105 v0 29 ((G99.1 + 1))
  rhck (0 ≤ (1000 : Int32).toInt ∧ (1000 : Int32).toInt ≤ 67108864) <|
  let M110 := rhmn M107 (G104.1 + 1)
  let G109 := rhgn G104 15 (1000 : Int32).toNatClampNeg (1000 : Int32).toNatClampNeg
  rhck (G109.2.2.1 v0 = 13) <|
  let M112 := rhsr M110 v0 30 ((G104.1 + 1))
  rhck (0 ≤ (90 : Int32).toInt ∧ (90 : Int32).toInt ≤ 67108864) <|
  let M115 := rhmn M112 (G109.1 + 1)
  let G114 := rhgn G109 15 (90 : Int32).toNatClampNeg (90 : Int32).toNatClampNeg
  rhck (G114.2.2.1 v0 = 13) <|
  let M117 := rhsr M115 v0 31 ((G109.1 + 1))
  rhck (0 ≤ (90 : Int32).toInt ∧ (90 : Int32).toInt ≤ 67108864) <|
  let M120 := rhmn M117 (G114.1 + 1)
  let G119 := rhgn G114 15 (90 : Int32).toNatClampNeg (90 : Int32).toNatClampNeg
  rhck (G119.2.2.1 v0 = 13) <|
  let M122 := rhsr M120 v0 32 ((G114.1 + 1))
  rhck (0 ≤ (70 : Int32).toInt ∧ (70 : Int32).toInt ≤ 67108864) <|
  let M125 := rhmn M122 (G119.1 + 1)
  let G124 := rhgn G119 15 (70 : Int32).toNatClampNeg (70 : Int32).toNatClampNeg
  rhck (G124.2.2.1 v0 = 13) <|
  let M127 := rhsr M125 v0 33 ((G119.1 + 1))
  rhck (0 ≤ (8 : Int32).toInt ∧ (8 : Int32).toInt ≤ 67108864) <|
  let M130 := rhmn M127 (G124.1 + 1)
  let G129 := rhgn G124 15 (8 : Int32).toNatClampNeg (8 : Int32).toNatClampNeg
  rhck (G129.2.2.1 v0 = 13) <|
  let M132 := rhsr M130 v0 39 ((G124.1 + 1))
  rhck (0 ≤ (6 : Int32).toInt ∧ (6 : Int32).toInt ≤ 67108864) <|
  let M135 := rhmn M132 (G129.1 + 1)
  let G134 := rhgn G129 15 (6 : Int32).toNatClampNeg (6 : Int32).toNatClampNeg
  rhck (G134.2.2.1 v0 = 13) <|
  let M137 := rhsr M135 v0 40 ((G129.1 + 1))
  rhck (0 ≤ (8 : Int32).toInt ∧ (8 : Int32).toInt ≤ 67108864) <|
  let M140 := rhmn M137 (G134.1 + 1)
  let G139 := rhgn G134 15 (8 : Int32).toNatClampNeg (8 : Int32).toNatClampNeg
  rhck (G139.2.2.1 v0 = 13) <|
  let M142 := rhsr M140 v0 41 ((G134.1 + 1))
  rhck (0 ≤ (8 : Int32).toInt ∧ (8 : Int32).toInt ≤ 67108864) <|
  let M145 := rhmn M142 (G139.1 + 1)
  let G144 := rhgn G139 15 (8 : Int32).toNatClampNeg (8 : Int32).toNatClampNeg
  rhck (G144.2.2.1 v0 = 13) <|
  let M147 := rhsr M145 v0 42 ((G139.1 + 1))
  rhck (0 ≤ (6 : Int32).toInt ∧ (6 : Int32).toInt ≤ 67108864) <|
  let M150 := rhmn M147 (G144.1 + 1)
  let G149 := rhgn G144 15 (6 : Int32).toNatClampNeg (6 : Int32).toNatClampNeg
  rhck (G149.2.2.1 v0 = 13) <|
  let M152 := rhsr M150 v0 43 ((G144.1 + 1))
  let M153 := rhsi M152 v0 44 ((-1))
  rhck (0 ≤ (300 : Int32).toInt ∧ (300 : Int32).toInt ≤ 67108864) <|
  let M156 := rhmn M153 (G149.1 + 1)
  let G155 := rhgn G149 15 (300 : Int32).toNatClampNeg (300 : Int32).toNatClampNeg
  rhck (G155.2.2.1 v0 = 13) <|
  let M158 := rhsr M156 v0 46 ((G149.1 + 1))
  rhck (0 ≤ (300 : Int32).toInt ∧ (300 : Int32).toInt ≤ 67108864) <|
  let M161 := rhmn M158 (G155.1 + 1)
  let G160 := rhgn G155 15 (300 : Int32).toNatClampNeg (300 : Int32).toNatClampNeg
  rhck (G160.2.2.1 v0 = 13) <|
  let M163 := rhsr M161 v0 47 ((G155.1 + 1))
  rhck (0 ≤ (12 : Int32).toInt ∧ (12 : Int32).toInt ≤ 67108864) <|
  let M166 := rhmn M163 (G160.1 + 1)
  let G165 := rhgn G160 15 (12 : Int32).toNatClampNeg (12 : Int32).toNatClampNeg
  rhck (G165.2.2.1 v0 = 13) <|
  let M168 := rhsr M166 v0 50 ((G160.1 + 1))
  rhck (0 ≤ (8 : Int32).toInt ∧ (8 : Int32).toInt ≤ 67108864) <|
  let M171 := rhmn M168 (G165.1 + 1)
  let G170 := rhgn G165 15 (8 : Int32).toNatClampNeg (8 : Int32).toNatClampNeg
  rhck (G170.2.2.1 v0 = 13) <|
  let M173 := rhsr M171 v0 52 ((G165.1 + 1))
  rhck (0 ≤ (246960 : Int32).toInt ∧ (246960 : Int32).toInt ≤ 67108864) <|
  let M176 := rhmn M173 (G170.1 + 1)
  let G175 := rhgn G170 15 (246960 : Int32).toNatClampNeg (246960 : Int32).toNatClampNeg
  rhck (G175.2.2.1 v0 = 13) <|
  let M178 := rhsr M176 v0 54 ((G170.1 + 1))
  rhck (0 ≤ (246960 : Int32).toInt ∧ (246960 : Int32).toInt ≤ 67108864) <|
  let M181 := rhmn M178 (G175.1 + 1)
  let G180 := rhgn G175 15 (246960 : Int32).toNatClampNeg (246960 : Int32).toNatClampNeg
  rhck (G180.2.2.1 v0 = 13) <|
  let M183 := rhsr M181 v0 55 ((G175.1 + 1))
  rhck (0 ≤ (246960 : Int32).toInt ∧ (246960 : Int32).toInt ≤ 67108864) <|
  let M186 := rhmn M183 (G180.1 + 1)
  let G185 := rhgn G180 15 (246960 : Int32).toNatClampNeg (246960 : Int32).toNatClampNeg
  rhck (G185.2.2.1 v0 = 13) <|
  let M188 := rhsr M186 v0 56 ((G180.1 + 1))
  rhck (0 ≤ (246960 : Int32).toInt ∧ (246960 : Int32).toInt ≤ 67108864) <|
  let M191 := rhmn M188 (G185.1 + 1)
  let G190 := rhgn G185 15 (246960 : Int32).toNatClampNeg (246960 : Int32).toNatClampNeg
  rhck (G190.2.2.1 v0 = 13) <|
  let M193 := rhsr M191 v0 57 ((G185.1 + 1))
  rhck (0 ≤ (61000 : Int32).toInt ∧ (61000 : Int32).toInt ≤ 67108864) <|
  let M196 := rhmn M193 (G190.1 + 1)
  let G195 := rhgn G190 15 (61000 : Int32).toNatClampNeg (61000 : Int32).toNatClampNeg
  rhck (G195.2.2.1 v0 = 13) <|
  let M198 := rhsr M196 v0 58 ((G190.1 + 1))
  rhck (0 ≤ (246960 : Int32).toInt ∧ (246960 : Int32).toInt ≤ 67108864) <|
  let M201 := rhmn M198 (G195.1 + 1)
  let G200 := rhgn G195 17 (246960 : Int32).toNatClampNeg (246960 : Int32).toNatClampNeg
  rhck (G200.2.2.1 v0 = 13) <|
  let M203 := rhsr M201 v0 59 ((G195.1 + 1))
  rhck (0 ≤ (8 : Int32).toInt ∧ (8 : Int32).toInt ≤ 67108864) <|
  let M206 := rhmn M203 (G200.1 + 1)
  let G205 := rhgn G200 15 (8 : Int32).toNatClampNeg (8 : Int32).toNatClampNeg
  rhck (G205.2.2.1 v0 = 13) <|
  let M208 := rhsr M206 v0 63 ((G200.1 + 1))
  rhck (0 ≤ (6 : Int32).toInt ∧ (6 : Int32).toInt ≤ 67108864) <|
  let M211 := rhmn M208 (G205.1 + 1)
  let G210 := rhgn G205 15 (6 : Int32).toNatClampNeg (6 : Int32).toNatClampNeg
  rhck (G210.2.2.1 v0 = 13) <|
  let M213 := rhsr M211 v0 64 ((G205.1 + 1))
  rhck (0 ≤ (61000 : Int32).toInt ∧ (61000 : Int32).toInt ≤ 67108864) <|
  let M216 := rhmn M213 (G210.1 + 1)
  let G215 := rhgn G210 15 (61000 : Int32).toNatClampNeg (61000 : Int32).toNatClampNeg
  rhck (G215.2.2.1 v0 = 13) <|
  let M218 := rhsr M216 v0 65 ((G210.1 + 1))
  rhck (0 ≤ (61000 : Int32).toInt ∧ (61000 : Int32).toInt ≤ 67108864) <|
  let M221 := rhmn M218 (G215.1 + 1)
  let G220 := rhgn G215 15 (61000 : Int32).toNatClampNeg (61000 : Int32).toNatClampNeg
  rhck (G220.2.2.1 v0 = 13) <|
  let M223 := rhsr M221 v0 67 ((G215.1 + 1))
  rhck (0 ≤ (246960 : Int32).toInt ∧ (246960 : Int32).toInt ≤ 67108864) <|
  let M226 := rhmn M223 (G220.1 + 1)
  let G225 := rhgn G220 15 (246960 : Int32).toNatClampNeg (246960 : Int32).toNatClampNeg
  rhck (G225.2.2.1 v0 = 13) <|
  let M228 := rhsr M226 v0 68 ((G220.1 + 1))
  rhck (0 ≤ (61000 : Int32).toInt ∧ (61000 : Int32).toInt ≤ 67108864) <|
  let M231 := rhmn M228 (G225.1 + 1)
  let G230 := rhgn G225 15 (61000 : Int32).toNatClampNeg (61000 : Int32).toNatClampNeg
  rhck (G230.2.2.1 v0 = 13) <|
  let M233 := rhsr M231 v0 69 ((G225.1 + 1))
  rhck (0 ≤ (20 : Int32).toInt ∧ (20 : Int32).toInt ≤ 67108864) <|
  let M236 := rhmn M233 (G230.1 + 1)
  let G235 := rhgn G230 15 (20 : Int32).toNatClampNeg (20 : Int32).toNatClampNeg
  rhck (G235.2.2.1 v0 = 13) <|
  let M238 := rhsr M236 v0 72 ((G230.1 + 1))
  rhck (0 ≤ (20 : Int32).toInt ∧ (20 : Int32).toInt ≤ 67108864) <|
  let M241 := rhmn M238 (G235.1 + 1)
  let G240 := rhgn G235 15 (20 : Int32).toNatClampNeg (20 : Int32).toNatClampNeg
  rhck (G240.2.2.1 v0 = 13) <|
  let M243 := rhsr M241 v0 73 ((G235.1 + 1))
  rhck (0 ≤ (20 : Int32).toInt ∧ (20 : Int32).toInt ≤ 67108864) <|
  let M246 := rhmn M243 (G240.1 + 1)
  let G245 := rhgn G240 15 (20 : Int32).toNatClampNeg (20 : Int32).toNatClampNeg
  rhck (G245.2.2.1 v0 = 13) <|
  let M248 := rhsr M246 v0 74 ((G240.1 + 1))
  rhck (0 ≤ (20 : Int32).toInt ∧ (20 : Int32).toInt ≤ 67108864) <|
  let M251 := rhmn M248 (G245.1 + 1)
  let G250 := rhgn G245 15 (20 : Int32).toNatClampNeg (20 : Int32).toNatClampNeg
  rhck (G250.2.2.1 v0 = 13) <|
  let M253 := rhsr M251 v0 75 ((G245.1 + 1))
  rhck (0 ≤ (20 : Int32).toInt ∧ (20 : Int32).toInt ≤ 67108864) <|
  let M256 := rhmn M253 (G250.1 + 1)
  let G255 := rhgn G250 15 (20 : Int32).toNatClampNeg (20 : Int32).toNatClampNeg
  rhck (G255.2.2.1 v0 = 13) <|
  let M258 := rhsr M256 v0 76 ((G250.1 + 1))
  rhck (0 ≤ (8 : Int32).toInt ∧ (8 : Int32).toInt ≤ 67108864) <|
  let M261 := rhmn M258 (G255.1 + 1)
  let G260 := rhgn G255 15 (8 : Int32).toNatClampNeg (8 : Int32).toNatClampNeg
  rhck (G260.2.2.1 v0 = 13) <|
  let M263 := rhsr M261 v0 77 ((G255.1 + 1))
  rhck (0 ≤ (32 : Int32).toInt ∧ (32 : Int32).toInt ≤ 67108864) <|
  let M266 := rhmn M263 (G260.1 + 1)
  let G265 := rhgn G260 15 (32 : Int32).toNatClampNeg (32 : Int32).toNatClampNeg
  rhck (G265.2.2.1 v0 = 13) <|
  let M268 := rhsr M266 v0 78 ((G260.1 + 1))
  rhck (0 ≤ (24 : Int32).toInt ∧ (24 : Int32).toInt ≤ 67108864) <|
  let M271 := rhmn M268 (G265.1 + 1)
  let G270 := rhgn G265 15 (24 : Int32).toNatClampNeg (24 : Int32).toNatClampNeg
  rhck (G270.2.2.1 v0 = 13) <|
  let M273 := rhsr M271 v0 79 ((G265.1 + 1))
  rhck (0 ≤ (4 : Int32).toInt ∧ (4 : Int32).toInt ≤ 67108864) <|
  let M276 := rhmn M273 (G270.1 + 1)
  let G275 := rhgn G270 15 (4 : Int32).toNatClampNeg (4 : Int32).toNatClampNeg
  rhck (G275.2.2.1 v0 = 13) <|
  let M278 := rhsr M276 v0 80 ((G270.1 + 1))
  rhck (0 ≤ (20 : Int32).toInt ∧ (20 : Int32).toInt ≤ 67108864) <|
  let M281 := rhmn M278 (G275.1 + 1)
  let G280 := rhgn G275 17 (20 : Int32).toNatClampNeg (20 : Int32).toNatClampNeg
  rhck (G280.2.2.1 v0 = 13) <|
  let M283 := rhsr M281 v0 81 ((G275.1 + 1))
  rhck (0 ≤ (3 : Int32).toInt ∧ (3 : Int32).toInt ≤ 67108864) <|
  let M286 := rhmn M283 (G280.1 + 1)
  let G285 := rhgn G280 15 (3 : Int32).toNatClampNeg (3 : Int32).toNatClampNeg
  rhck (G285.2.2.1 v0 = 13) <|
  let M288 := rhsr M286 v0 84 ((G280.1 + 1))
  rhck (0 ≤ (3 : Int32).toInt ∧ (3 : Int32).toInt ≤ 67108864) <|
  let M291 := rhmn M288 (G285.1 + 1)
  let G290 := rhgn G285 15 (3 : Int32).toNatClampNeg (3 : Int32).toNatClampNeg
  rhck (G290.2.2.1 v0 = 13) <|
  let M293 := rhsr M291 v0 85 ((G285.1 + 1))
  rhck (0 ≤ (24 : Int32).toInt ∧ (24 : Int32).toInt ≤ 67108864) <|
  let M296 := rhmn M293 (G290.1 + 1)
  let G295 := rhgn G290 15 (24 : Int32).toNatClampNeg (24 : Int32).toNatClampNeg
  rhck (G295.2.2.1 v0 = 13) <|
  let M298 := rhsr M296 v0 86 ((G290.1 + 1))
  rhck (0 ≤ (18 : Int32).toInt ∧ (18 : Int32).toInt ≤ 67108864) <|
  let M301 := rhmn M298 (G295.1 + 1)
  let G300 := rhgn G295 15 (18 : Int32).toNatClampNeg (18 : Int32).toNatClampNeg
  rhck (G300.2.2.1 v0 = 13) <|
  let M303 := rhsr M301 v0 87 ((G295.1 + 1))
  rhck (0 ≤ (900 : Int32).toInt ∧ (900 : Int32).toInt ≤ 67108864) <|
  let M306 := rhmn M303 (G300.1 + 1)
  let G305 := rhgn G300 15 (900 : Int32).toNatClampNeg (900 : Int32).toNatClampNeg
  rhck (G305.2.2.1 v0 = 13) <|
  let M308 := rhsr M306 v0 88 ((G300.1 + 1))
  rhck (0 ≤ (900 : Int32).toInt ∧ (900 : Int32).toInt ≤ 67108864) <|
  let M311 := rhmn M308 (G305.1 + 1)
  let G310 := rhgn G305 15 (900 : Int32).toNatClampNeg (900 : Int32).toNatClampNeg
  rhck (G310.2.2.1 v0 = 13) <|
  let M313 := rhsr M311 v0 89 ((G305.1 + 1))
  (f_X12_clearBank G310 M313 v0).bind fun r314 =>
  (f_X12_begin G310 r314 v0).bind fun r315 =>
  f_X12_init_517 rhFU G310 r315 v0 0
set_option maxHeartbeats 4000000 in
set_option maxRecDepth 100000 in
theorem b_X12_init_517 {E : rhE} {Γ0 : rhG} : ∀ (n : Nat) (Γ : rhG) (M : rhM) (v0 : Nat) (v1 : Int32), rhF E 7 2 yX12_init cX12_init none Γ0 rhe2U (f_X12_init_517 n Γ M v0 v1) 517 [(0, rhR v0), (1, rhI v1)] [] Γ M := by
  intro n
  induction n with
  | zero => intro Γ M v0 v1; rw [f_X12_init_517]; exact rhF.nope
  | succ n ih =>
    intro Γ M v0 v1
    rw [f_X12_init_517]
    refine rhF.iload_n (pc := 517) dX12_init_517 1 rfl ?_
    refine rhF.iconst (pc := 518) (v := 3) dX12_init_518 (by decide) ?_
    refine rhF.icmp_ge (pc := 519) 535 dX12_init_519 (by decide) (fun h316 => ?_) (fun h316 => ?_)
    · refine rhF.aload_n (pc := 522) dX12_init_522 0 rfl ?_
      refine rhF.ck (fun h317 => ?_)
      refine rhF.get (pc := 523) (rhR _) dX12_init_523 fl_X12_190 h317 rfl ?_
      refine rhF.iload_n (pc := 526) dX12_init_526 1 rfl ?_
      refine rhF.iconst (pc := 527) (v := (-1)) dX12_init_527 (by decide) ?_
      refine rhF.ck (fun h318 => ?_)
      refine rhF.ck (fun h319 => ?_)
      refine rhF.iast (pc := 528) dX12_init_528 h318 h319 ?_
      refine rhF.iinc (pc := 529) (L' := [(1, rhI _), (0, rhR _)]) dX12_init_529 1 rfl rfl (by decide) rfl ?_
      refine rhF.goto (pc := 532) 517 dX12_init_532 (by decide) ?_
      refine rhF.sub [1, 0] rfl ?_
      exact ih _ _ _ _
    · exact rhF.vret (pc := 535) dX12_init_535 rfl rfl
set_option maxHeartbeats 4000000 in
set_option maxRecDepth 100000 in
theorem b_X12_init {E : rhE} {Γ0 : rhG} : ∀ (Γ : rhG) (M : rhM) (v0 : Nat), rhF E 7 2 yX12_init cX12_init none Γ0 rhe2U (f_X12_init Γ M v0) 0 [(0, rhR v0)] [] Γ M := by
  intro Γ M v0
  rw [f_X12_init]
  refine rhF.aload_n (pc := 0) dX12_init_0 0 rfl ?_
  refine rhF.ck (fun h1 => ?_)
  refine rhF.objInit (pc := 1) dX12_init_1 oi_X12_1 (fun z => absurd (h1.symm.trans z) (by decide)) (by decide) (Nat.le_of_ble_eq_true rfl) ?_
  refine rhF.aload_n (pc := 4) dX12_init_4 0 rfl ?_
  refine rhF.sipush (pc := 5) (v := 1620) dX12_init_5 (by decide) ?_
  refine rhF.ck (fun h2 => ?_)
  refine rhF.newB (pc := 8) dX12_init_8 ac_byte h2 ?_
  refine rhF.ck (fun h5 => ?_)
  refine rhF.putr (pc := 10) dX12_init_10 fl_X12_7 h5 (fun q hq => by cases hq; exact Or.inr ⟨rfl, rfl, rfl⟩) (Or.inr ⟨_, rfl⟩) (fun _ => rfl) ?_
  refine rhF.aload_n (pc := 13) dX12_init_13 0 rfl ?_
  refine rhF.sipush (pc := 14) (v := 1600) dX12_init_14 (by decide) ?_
  refine rhF.ck (fun h7 => ?_)
  refine rhF.newB (pc := 17) dX12_init_17 ac_byte h7 ?_
  refine rhF.ck (fun h10 => ?_)
  refine rhF.putr (pc := 19) dX12_init_19 fl_X12_13 h10 (fun q hq => by cases hq; exact Or.inr ⟨rfl, rfl, rfl⟩) (Or.inr ⟨_, rfl⟩) (fun _ => rfl) ?_
  refine rhF.aload_n (pc := 22) dX12_init_22 0 rfl ?_
  refine rhF.iconst (pc := 23) (v := (-1)) dX12_init_23 (by decide) ?_
  refine rhF.puti (pc := 24) dX12_init_24 fl_X12_16 h10 (fun q hq => by cases hq; exact Or.inl rfl) ⟨rfl, rfl⟩ (fun _ => rfl) ?_
  refine rhF.aload_n (pc := 27) dX12_init_27 0 rfl ?_
  refine rhF.iconst (pc := 28) (v := 2) dX12_init_28 (by decide) ?_
  refine rhF.ck (fun h13 => ?_)
  refine rhF.newI (pc := 29) dX12_init_29 ac_int h13 ?_
  refine rhF.ck (fun h16 => ?_)
  refine rhF.putr (pc := 31) dX12_init_31 fl_X12_20 h16 (fun q hq => by cases hq; exact Or.inr ⟨rfl, rfl, rfl⟩) (Or.inr ⟨_, rfl⟩) (fun _ => rfl) ?_
  refine rhF.aload_n (pc := 34) dX12_init_34 0 rfl ?_
  refine rhF.iconst (pc := 35) (v := 2) dX12_init_35 (by decide) ?_
  refine rhF.ck (fun h18 => ?_)
  refine rhF.newI (pc := 36) dX12_init_36 ac_int h18 ?_
  refine rhF.ck (fun h21 => ?_)
  refine rhF.putr (pc := 38) dX12_init_38 fl_X12_24 h21 (fun q hq => by cases hq; exact Or.inr ⟨rfl, rfl, rfl⟩) (Or.inr ⟨_, rfl⟩) (fun _ => rfl) ?_
  refine rhF.aload_n (pc := 41) dX12_init_41 0 rfl ?_
  refine rhF.iconst (pc := 42) (v := 2) dX12_init_42 (by decide) ?_
  refine rhF.ck (fun h23 => ?_)
  refine rhF.newI (pc := 43) dX12_init_43 ac_int h23 ?_
  refine rhF.ck (fun h26 => ?_)
  refine rhF.putr (pc := 45) dX12_init_45 fl_X12_27 h26 (fun q hq => by cases hq; exact Or.inr ⟨rfl, rfl, rfl⟩) (Or.inr ⟨_, rfl⟩) (fun _ => rfl) ?_
  refine rhF.aload_n (pc := 48) dX12_init_48 0 rfl ?_
  refine rhF.iconst (pc := 49) (v := 2) dX12_init_49 (by decide) ?_
  refine rhF.ck (fun h28 => ?_)
  refine rhF.newI (pc := 50) dX12_init_50 ac_int h28 ?_
  refine rhF.ck (fun h31 => ?_)
  refine rhF.putr (pc := 52) dX12_init_52 fl_X12_30 h31 (fun q hq => by cases hq; exact Or.inr ⟨rfl, rfl, rfl⟩) (Or.inr ⟨_, rfl⟩) (fun _ => rfl) ?_
  refine rhF.aload_n (pc := 55) dX12_init_55 0 rfl ?_
  refine rhF.iconst (pc := 56) (v := 2) dX12_init_56 (by decide) ?_
  refine rhF.ck (fun h33 => ?_)
  refine rhF.newI (pc := 57) dX12_init_57 ac_int h33 ?_
  refine rhF.ck (fun h36 => ?_)
  refine rhF.putr (pc := 59) dX12_init_59 fl_X12_33 h36 (fun q hq => by cases hq; exact Or.inr ⟨rfl, rfl, rfl⟩) (Or.inr ⟨_, rfl⟩) (fun _ => rfl) ?_
  refine rhF.aload_n (pc := 62) dX12_init_62 0 rfl ?_
  refine rhF.iconst (pc := 63) (v := 2) dX12_init_63 (by decide) ?_
  refine rhF.ck (fun h38 => ?_)
  refine rhF.newI (pc := 64) dX12_init_64 ac_int h38 ?_
  refine rhF.ck (fun h41 => ?_)
  refine rhF.putr (pc := 66) dX12_init_66 fl_X12_36 h41 (fun q hq => by cases hq; exact Or.inr ⟨rfl, rfl, rfl⟩) (Or.inr ⟨_, rfl⟩) (fun _ => rfl) ?_
  refine rhF.aload_n (pc := 69) dX12_init_69 0 rfl ?_
  refine rhF.iconst (pc := 70) (v := 2) dX12_init_70 (by decide) ?_
  refine rhF.ck (fun h43 => ?_)
  refine rhF.newI (pc := 71) dX12_init_71 ac_int h43 ?_
  refine rhF.ck (fun h46 => ?_)
  refine rhF.putr (pc := 73) dX12_init_73 fl_X12_39 h46 (fun q hq => by cases hq; exact Or.inr ⟨rfl, rfl, rfl⟩) (Or.inr ⟨_, rfl⟩) (fun _ => rfl) ?_
  refine rhF.aload_n (pc := 76) dX12_init_76 0 rfl ?_
  refine rhF.bipush (pc := 77) (v := 10) dX12_init_77 (by decide) ?_
  refine rhF.ck (fun h48 => ?_)
  refine rhF.newI (pc := 79) dX12_init_79 ac_int h48 ?_
  refine rhF.ck (fun h51 => ?_)
  refine rhF.putr (pc := 81) dX12_init_81 fl_X12_42 h51 (fun q hq => by cases hq; exact Or.inr ⟨rfl, rfl, rfl⟩) (Or.inr ⟨_, rfl⟩) (fun _ => rfl) ?_
  refine rhF.aload_n (pc := 84) dX12_init_84 0 rfl ?_
  refine rhF.bipush (pc := 85) (v := 16) dX12_init_85 (by decide) ?_
  refine rhF.ck (fun h53 => ?_)
  refine rhF.newI (pc := 87) dX12_init_87 ac_int h53 ?_
  refine rhF.ck (fun h56 => ?_)
  refine rhF.putr (pc := 89) dX12_init_89 fl_X12_45 h56 (fun q hq => by cases hq; exact Or.inr ⟨rfl, rfl, rfl⟩) (Or.inr ⟨_, rfl⟩) (fun _ => rfl) ?_
  refine rhF.aload_n (pc := 92) dX12_init_92 0 rfl ?_
  refine rhF.bipush (pc := 93) (v := 16) dX12_init_93 (by decide) ?_
  refine rhF.ck (fun h58 => ?_)
  refine rhF.newI (pc := 95) dX12_init_95 ac_int h58 ?_
  refine rhF.ck (fun h61 => ?_)
  refine rhF.putr (pc := 97) dX12_init_97 fl_X12_48 h61 (fun q hq => by cases hq; exact Or.inr ⟨rfl, rfl, rfl⟩) (Or.inr ⟨_, rfl⟩) (fun _ => rfl) ?_
  refine rhF.aload_n (pc := 100) dX12_init_100 0 rfl ?_
  refine rhF.bipush (pc := 101) (v := 16) dX12_init_101 (by decide) ?_
  refine rhF.ck (fun h63 => ?_)
  refine rhF.newI (pc := 103) dX12_init_103 ac_int h63 ?_
  refine rhF.ck (fun h66 => ?_)
  refine rhF.putr (pc := 105) dX12_init_105 fl_X12_51 h66 (fun q hq => by cases hq; exact Or.inr ⟨rfl, rfl, rfl⟩) (Or.inr ⟨_, rfl⟩) (fun _ => rfl) ?_
  refine rhF.aload_n (pc := 108) dX12_init_108 0 rfl ?_
  refine rhF.sipush (pc := 109) (v := 128) dX12_init_109 (by decide) ?_
  refine rhF.ck (fun h68 => ?_)
  refine rhF.newI (pc := 112) dX12_init_112 ac_int h68 ?_
  refine rhF.ck (fun h71 => ?_)
  refine rhF.putr (pc := 114) dX12_init_114 fl_X12_54 h71 (fun q hq => by cases hq; exact Or.inr ⟨rfl, rfl, rfl⟩) (Or.inr ⟨_, rfl⟩) (fun _ => rfl) ?_
  refine rhF.aload_n (pc := 117) dX12_init_117 0 rfl ?_
  refine rhF.iconst (pc := 118) (v := 2) dX12_init_118 (by decide) ?_
  refine rhF.ck (fun h73 => ?_)
  refine rhF.newZ (pc := 119) dX12_init_119 ac_boolean h73 ?_
  refine rhF.ck (fun h76 => ?_)
  refine rhF.putr (pc := 121) dX12_init_121 fl_X12_57 h76 (fun q hq => by cases hq; exact Or.inr ⟨rfl, rfl, rfl⟩) (Or.inr ⟨_, rfl⟩) (fun _ => rfl) ?_
  refine rhF.aload_n (pc := 124) dX12_init_124 0 rfl ?_
  refine rhF.iconst (pc := 125) (v := 2) dX12_init_125 (by decide) ?_
  refine rhF.ck (fun h78 => ?_)
  refine rhF.newZ (pc := 126) dX12_init_126 ac_boolean h78 ?_
  refine rhF.ck (fun h81 => ?_)
  refine rhF.putr (pc := 128) dX12_init_128 fl_X12_61 h81 (fun q hq => by cases hq; exact Or.inr ⟨rfl, rfl, rfl⟩) (Or.inr ⟨_, rfl⟩) (fun _ => rfl) ?_
  refine rhF.aload_n (pc := 131) dX12_init_131 0 rfl ?_
  refine rhF.iconst (pc := 132) (v := 2) dX12_init_132 (by decide) ?_
  refine rhF.ck (fun h83 => ?_)
  refine rhF.newZ (pc := 133) dX12_init_133 ac_boolean h83 ?_
  refine rhF.ck (fun h86 => ?_)
  refine rhF.putr (pc := 135) dX12_init_135 fl_X12_64 h86 (fun q hq => by cases hq; exact Or.inr ⟨rfl, rfl, rfl⟩) (Or.inr ⟨_, rfl⟩) (fun _ => rfl) ?_
  refine rhF.aload_n (pc := 138) dX12_init_138 0 rfl ?_
  refine rhF.sipush (pc := 139) (v := 128) dX12_init_139 (by decide) ?_
  refine rhF.ck (fun h88 => ?_)
  refine rhF.newZ (pc := 142) dX12_init_142 ac_boolean h88 ?_
  refine rhF.ck (fun h91 => ?_)
  refine rhF.putr (pc := 144) dX12_init_144 fl_X12_67 h91 (fun q hq => by cases hq; exact Or.inr ⟨rfl, rfl, rfl⟩) (Or.inr ⟨_, rfl⟩) (fun _ => rfl) ?_
  refine rhF.aload_n (pc := 147) dX12_init_147 0 rfl ?_
  refine rhF.bipush (pc := 148) (v := 10) dX12_init_148 (by decide) ?_
  refine rhF.ck (fun h93 => ?_)
  refine rhF.newJ (pc := 150) dX12_init_150 ac_long h93 ?_
  refine rhF.ck (fun h96 => ?_)
  refine rhF.putr (pc := 152) dX12_init_152 fl_X12_70 h96 (fun q hq => by cases hq; exact Or.inr ⟨rfl, rfl, rfl⟩) (Or.inr ⟨_, rfl⟩) (fun _ => rfl) ?_
  refine rhF.aload_n (pc := 155) dX12_init_155 0 rfl ?_
  refine rhF.bipush (pc := 156) (v := 16) dX12_init_156 (by decide) ?_
  refine rhF.ck (fun h98 => ?_)
  refine rhF.newJ (pc := 158) dX12_init_158 ac_long h98 ?_
  refine rhF.ck (fun h101 => ?_)
  refine rhF.putr (pc := 160) dX12_init_160 fl_X12_74 h101 (fun q hq => by cases hq; exact Or.inr ⟨rfl, rfl, rfl⟩) (Or.inr ⟨_, rfl⟩) (fun _ => rfl) ?_
  refine rhF.aload_n (pc := 163) dX12_init_163 0 rfl ?_
  refine rhF.sipush (pc := 164) (v := 1000) dX12_init_164 (by decide) ?_
  refine rhF.ck (fun h103 => ?_)
  refine rhF.newI (pc := 167) dX12_init_167 ac_int h103 ?_
  refine rhF.ck (fun h106 => ?_)
  refine rhF.putr (pc := 169) dX12_init_169 fl_X12_77 h106 (fun q hq => by cases hq; exact Or.inr ⟨rfl, rfl, rfl⟩) (Or.inr ⟨_, rfl⟩) (fun _ => rfl) ?_
  refine rhF.aload_n (pc := 172) dX12_init_172 0 rfl ?_
  refine rhF.sipush (pc := 173) (v := 1000) dX12_init_173 (by decide) ?_
  refine rhF.ck (fun h108 => ?_)
  refine rhF.newI (pc := 176) dX12_init_176 ac_int h108 ?_
  refine rhF.ck (fun h111 => ?_)
  refine rhF.putr (pc := 178) dX12_init_178 fl_X12_80 h111 (fun q hq => by cases hq; exact Or.inr ⟨rfl, rfl, rfl⟩) (Or.inr ⟨_, rfl⟩) (fun _ => rfl) ?_
  refine rhF.aload_n (pc := 181) dX12_init_181 0 rfl ?_
  refine rhF.bipush (pc := 182) (v := 90) dX12_init_182 (by decide) ?_
  refine rhF.ck (fun h113 => ?_)
  refine rhF.newI (pc := 184) dX12_init_184 ac_int h113 ?_
  refine rhF.ck (fun h116 => ?_)
  refine rhF.putr (pc := 186) dX12_init_186 fl_X12_83 h116 (fun q hq => by cases hq; exact Or.inr ⟨rfl, rfl, rfl⟩) (Or.inr ⟨_, rfl⟩) (fun _ => rfl) ?_
  refine rhF.aload_n (pc := 189) dX12_init_189 0 rfl ?_
  refine rhF.bipush (pc := 190) (v := 90) dX12_init_190 (by decide) ?_
  refine rhF.ck (fun h118 => ?_)
  refine rhF.newI (pc := 192) dX12_init_192 ac_int h118 ?_
  refine rhF.ck (fun h121 => ?_)
  refine rhF.putr (pc := 194) dX12_init_194 fl_X12_86 h121 (fun q hq => by cases hq; exact Or.inr ⟨rfl, rfl, rfl⟩) (Or.inr ⟨_, rfl⟩) (fun _ => rfl) ?_
  refine rhF.aload_n (pc := 197) dX12_init_197 0 rfl ?_
  refine rhF.bipush (pc := 198) (v := 70) dX12_init_198 (by decide) ?_
  refine rhF.ck (fun h123 => ?_)
  refine rhF.newI (pc := 200) dX12_init_200 ac_int h123 ?_
  refine rhF.ck (fun h126 => ?_)
  refine rhF.putr (pc := 202) dX12_init_202 fl_X12_89 h126 (fun q hq => by cases hq; exact Or.inr ⟨rfl, rfl, rfl⟩) (Or.inr ⟨_, rfl⟩) (fun _ => rfl) ?_
  refine rhF.aload_n (pc := 205) dX12_init_205 0 rfl ?_
  refine rhF.bipush (pc := 206) (v := 8) dX12_init_206 (by decide) ?_
  refine rhF.ck (fun h128 => ?_)
  refine rhF.newI (pc := 208) dX12_init_208 ac_int h128 ?_
  refine rhF.ck (fun h131 => ?_)
  refine rhF.putr (pc := 210) dX12_init_210 fl_X12_92 h131 (fun q hq => by cases hq; exact Or.inr ⟨rfl, rfl, rfl⟩) (Or.inr ⟨_, rfl⟩) (fun _ => rfl) ?_
  refine rhF.aload_n (pc := 213) dX12_init_213 0 rfl ?_
  refine rhF.bipush (pc := 214) (v := 6) dX12_init_214 (by decide) ?_
  refine rhF.ck (fun h133 => ?_)
  refine rhF.newI (pc := 216) dX12_init_216 ac_int h133 ?_
  refine rhF.ck (fun h136 => ?_)
  refine rhF.putr (pc := 218) dX12_init_218 fl_X12_95 h136 (fun q hq => by cases hq; exact Or.inr ⟨rfl, rfl, rfl⟩) (Or.inr ⟨_, rfl⟩) (fun _ => rfl) ?_
  refine rhF.aload_n (pc := 221) dX12_init_221 0 rfl ?_
  refine rhF.bipush (pc := 222) (v := 8) dX12_init_222 (by decide) ?_
  refine rhF.ck (fun h138 => ?_)
  refine rhF.newI (pc := 224) dX12_init_224 ac_int h138 ?_
  refine rhF.ck (fun h141 => ?_)
  refine rhF.putr (pc := 226) dX12_init_226 fl_X12_98 h141 (fun q hq => by cases hq; exact Or.inr ⟨rfl, rfl, rfl⟩) (Or.inr ⟨_, rfl⟩) (fun _ => rfl) ?_
  refine rhF.aload_n (pc := 229) dX12_init_229 0 rfl ?_
  refine rhF.bipush (pc := 230) (v := 8) dX12_init_230 (by decide) ?_
  refine rhF.ck (fun h143 => ?_)
  refine rhF.newI (pc := 232) dX12_init_232 ac_int h143 ?_
  refine rhF.ck (fun h146 => ?_)
  refine rhF.putr (pc := 234) dX12_init_234 fl_X12_101 h146 (fun q hq => by cases hq; exact Or.inr ⟨rfl, rfl, rfl⟩) (Or.inr ⟨_, rfl⟩) (fun _ => rfl) ?_
  refine rhF.aload_n (pc := 237) dX12_init_237 0 rfl ?_
  refine rhF.bipush (pc := 238) (v := 6) dX12_init_238 (by decide) ?_
  refine rhF.ck (fun h148 => ?_)
  refine rhF.newI (pc := 240) dX12_init_240 ac_int h148 ?_
  refine rhF.ck (fun h151 => ?_)
  refine rhF.putr (pc := 242) dX12_init_242 fl_X12_104 h151 (fun q hq => by cases hq; exact Or.inr ⟨rfl, rfl, rfl⟩) (Or.inr ⟨_, rfl⟩) (fun _ => rfl) ?_
  refine rhF.aload_n (pc := 245) dX12_init_245 0 rfl ?_
  refine rhF.iconst (pc := 246) (v := (-1)) dX12_init_246 (by decide) ?_
  refine rhF.puti (pc := 247) dX12_init_247 fl_X12_107 h151 (fun q hq => by cases hq; exact Or.inl rfl) ⟨rfl, rfl⟩ (fun _ => rfl) ?_
  refine rhF.aload_n (pc := 250) dX12_init_250 0 rfl ?_
  refine rhF.sipush (pc := 251) (v := 300) dX12_init_251 (by decide) ?_
  refine rhF.ck (fun h154 => ?_)
  refine rhF.newI (pc := 254) dX12_init_254 ac_int h154 ?_
  refine rhF.ck (fun h157 => ?_)
  refine rhF.putr (pc := 256) dX12_init_256 fl_X12_110 h157 (fun q hq => by cases hq; exact Or.inr ⟨rfl, rfl, rfl⟩) (Or.inr ⟨_, rfl⟩) (fun _ => rfl) ?_
  refine rhF.aload_n (pc := 259) dX12_init_259 0 rfl ?_
  refine rhF.sipush (pc := 260) (v := 300) dX12_init_260 (by decide) ?_
  refine rhF.ck (fun h159 => ?_)
  refine rhF.newI (pc := 263) dX12_init_263 ac_int h159 ?_
  refine rhF.ck (fun h162 => ?_)
  refine rhF.putr (pc := 265) dX12_init_265 fl_X12_113 h162 (fun q hq => by cases hq; exact Or.inr ⟨rfl, rfl, rfl⟩) (Or.inr ⟨_, rfl⟩) (fun _ => rfl) ?_
  refine rhF.aload_n (pc := 268) dX12_init_268 0 rfl ?_
  refine rhF.bipush (pc := 269) (v := 12) dX12_init_269 (by decide) ?_
  refine rhF.ck (fun h164 => ?_)
  refine rhF.newI (pc := 271) dX12_init_271 ac_int h164 ?_
  refine rhF.ck (fun h167 => ?_)
  refine rhF.putr (pc := 273) dX12_init_273 fl_X12_116 h167 (fun q hq => by cases hq; exact Or.inr ⟨rfl, rfl, rfl⟩) (Or.inr ⟨_, rfl⟩) (fun _ => rfl) ?_
  refine rhF.aload_n (pc := 276) dX12_init_276 0 rfl ?_
  refine rhF.bipush (pc := 277) (v := 8) dX12_init_277 (by decide) ?_
  refine rhF.ck (fun h169 => ?_)
  refine rhF.newI (pc := 279) dX12_init_279 ac_int h169 ?_
  refine rhF.ck (fun h172 => ?_)
  refine rhF.putr (pc := 281) dX12_init_281 fl_X12_119 h172 (fun q hq => by cases hq; exact Or.inr ⟨rfl, rfl, rfl⟩) (Or.inr ⟨_, rfl⟩) (fun _ => rfl) ?_
  refine rhF.aload_n (pc := 284) dX12_init_284 0 rfl ?_
  refine rhF.ldc (pc := 285) dX12_init_285 k_X12_122 ?_
  refine rhF.ck (fun h174 => ?_)
  refine rhF.newI (pc := 287) dX12_init_287 ac_int h174 ?_
  refine rhF.ck (fun h177 => ?_)
  refine rhF.putr (pc := 289) dX12_init_289 fl_X12_123 h177 (fun q hq => by cases hq; exact Or.inr ⟨rfl, rfl, rfl⟩) (Or.inr ⟨_, rfl⟩) (fun _ => rfl) ?_
  refine rhF.aload_n (pc := 292) dX12_init_292 0 rfl ?_
  refine rhF.ldc (pc := 293) dX12_init_293 k_X12_122 ?_
  refine rhF.ck (fun h179 => ?_)
  refine rhF.newI (pc := 295) dX12_init_295 ac_int h179 ?_
  refine rhF.ck (fun h182 => ?_)
  refine rhF.putr (pc := 297) dX12_init_297 fl_X12_126 h182 (fun q hq => by cases hq; exact Or.inr ⟨rfl, rfl, rfl⟩) (Or.inr ⟨_, rfl⟩) (fun _ => rfl) ?_
  refine rhF.aload_n (pc := 300) dX12_init_300 0 rfl ?_
  refine rhF.ldc (pc := 301) dX12_init_301 k_X12_122 ?_
  refine rhF.ck (fun h184 => ?_)
  refine rhF.newI (pc := 303) dX12_init_303 ac_int h184 ?_
  refine rhF.ck (fun h187 => ?_)
  refine rhF.putr (pc := 305) dX12_init_305 fl_X12_129 h187 (fun q hq => by cases hq; exact Or.inr ⟨rfl, rfl, rfl⟩) (Or.inr ⟨_, rfl⟩) (fun _ => rfl) ?_
  refine rhF.aload_n (pc := 308) dX12_init_308 0 rfl ?_
  refine rhF.ldc (pc := 309) dX12_init_309 k_X12_122 ?_
  refine rhF.ck (fun h189 => ?_)
  refine rhF.newI (pc := 311) dX12_init_311 ac_int h189 ?_
  refine rhF.ck (fun h192 => ?_)
  refine rhF.putr (pc := 313) dX12_init_313 fl_X12_132 h192 (fun q hq => by cases hq; exact Or.inr ⟨rfl, rfl, rfl⟩) (Or.inr ⟨_, rfl⟩) (fun _ => rfl) ?_
  refine rhF.aload_n (pc := 316) dX12_init_316 0 rfl ?_
  refine rhF.ldc (pc := 317) dX12_init_317 k_X12_135 ?_
  refine rhF.ck (fun h194 => ?_)
  refine rhF.newI (pc := 319) dX12_init_319 ac_int h194 ?_
  refine rhF.ck (fun h197 => ?_)
  refine rhF.putr (pc := 321) dX12_init_321 fl_X12_136 h197 (fun q hq => by cases hq; exact Or.inr ⟨rfl, rfl, rfl⟩) (Or.inr ⟨_, rfl⟩) (fun _ => rfl) ?_
  refine rhF.aload_n (pc := 324) dX12_init_324 0 rfl ?_
  refine rhF.ldc (pc := 325) dX12_init_325 k_X12_122 ?_
  refine rhF.ck (fun h199 => ?_)
  refine rhF.newZ (pc := 327) dX12_init_327 ac_boolean h199 ?_
  refine rhF.ck (fun h202 => ?_)
  refine rhF.putr (pc := 329) dX12_init_329 fl_X12_139 h202 (fun q hq => by cases hq; exact Or.inr ⟨rfl, rfl, rfl⟩) (Or.inr ⟨_, rfl⟩) (fun _ => rfl) ?_
  refine rhF.aload_n (pc := 332) dX12_init_332 0 rfl ?_
  refine rhF.bipush (pc := 333) (v := 8) dX12_init_333 (by decide) ?_
  refine rhF.ck (fun h204 => ?_)
  refine rhF.newI (pc := 335) dX12_init_335 ac_int h204 ?_
  refine rhF.ck (fun h207 => ?_)
  refine rhF.putr (pc := 337) dX12_init_337 fl_X12_142 h207 (fun q hq => by cases hq; exact Or.inr ⟨rfl, rfl, rfl⟩) (Or.inr ⟨_, rfl⟩) (fun _ => rfl) ?_
  refine rhF.aload_n (pc := 340) dX12_init_340 0 rfl ?_
  refine rhF.bipush (pc := 341) (v := 6) dX12_init_341 (by decide) ?_
  refine rhF.ck (fun h209 => ?_)
  refine rhF.newI (pc := 343) dX12_init_343 ac_int h209 ?_
  refine rhF.ck (fun h212 => ?_)
  refine rhF.putr (pc := 345) dX12_init_345 fl_X12_145 h212 (fun q hq => by cases hq; exact Or.inr ⟨rfl, rfl, rfl⟩) (Or.inr ⟨_, rfl⟩) (fun _ => rfl) ?_
  refine rhF.aload_n (pc := 348) dX12_init_348 0 rfl ?_
  refine rhF.ldc (pc := 349) dX12_init_349 k_X12_135 ?_
  refine rhF.ck (fun h214 => ?_)
  refine rhF.newI (pc := 351) dX12_init_351 ac_int h214 ?_
  refine rhF.ck (fun h217 => ?_)
  refine rhF.putr (pc := 353) dX12_init_353 fl_X12_148 h217 (fun q hq => by cases hq; exact Or.inr ⟨rfl, rfl, rfl⟩) (Or.inr ⟨_, rfl⟩) (fun _ => rfl) ?_
  refine rhF.aload_n (pc := 356) dX12_init_356 0 rfl ?_
  refine rhF.ldc (pc := 357) dX12_init_357 k_X12_135 ?_
  refine rhF.ck (fun h219 => ?_)
  refine rhF.newI (pc := 359) dX12_init_359 ac_int h219 ?_
  refine rhF.ck (fun h222 => ?_)
  refine rhF.putr (pc := 361) dX12_init_361 fl_X12_151 h222 (fun q hq => by cases hq; exact Or.inr ⟨rfl, rfl, rfl⟩) (Or.inr ⟨_, rfl⟩) (fun _ => rfl) ?_
  refine rhF.aload_n (pc := 364) dX12_init_364 0 rfl ?_
  refine rhF.ldc (pc := 365) dX12_init_365 k_X12_122 ?_
  refine rhF.ck (fun h224 => ?_)
  refine rhF.newI (pc := 367) dX12_init_367 ac_int h224 ?_
  refine rhF.ck (fun h227 => ?_)
  refine rhF.putr (pc := 369) dX12_init_369 fl_X12_154 h227 (fun q hq => by cases hq; exact Or.inr ⟨rfl, rfl, rfl⟩) (Or.inr ⟨_, rfl⟩) (fun _ => rfl) ?_
  refine rhF.aload_n (pc := 372) dX12_init_372 0 rfl ?_
  refine rhF.ldc (pc := 373) dX12_init_373 k_X12_135 ?_
  refine rhF.ck (fun h229 => ?_)
  refine rhF.newI (pc := 375) dX12_init_375 ac_int h229 ?_
  refine rhF.ck (fun h232 => ?_)
  refine rhF.putr (pc := 377) dX12_init_377 fl_X12_157 h232 (fun q hq => by cases hq; exact Or.inr ⟨rfl, rfl, rfl⟩) (Or.inr ⟨_, rfl⟩) (fun _ => rfl) ?_
  refine rhF.aload_n (pc := 380) dX12_init_380 0 rfl ?_
  refine rhF.bipush (pc := 381) (v := 20) dX12_init_381 (by decide) ?_
  refine rhF.ck (fun h234 => ?_)
  refine rhF.newI (pc := 383) dX12_init_383 ac_int h234 ?_
  refine rhF.ck (fun h237 => ?_)
  refine rhF.putr (pc := 385) dX12_init_385 fl_X12_160 h237 (fun q hq => by cases hq; exact Or.inr ⟨rfl, rfl, rfl⟩) (Or.inr ⟨_, rfl⟩) (fun _ => rfl) ?_
  refine rhF.aload_n (pc := 388) dX12_init_388 0 rfl ?_
  refine rhF.bipush (pc := 389) (v := 20) dX12_init_389 (by decide) ?_
  refine rhF.ck (fun h239 => ?_)
  refine rhF.newI (pc := 391) dX12_init_391 ac_int h239 ?_
  refine rhF.ck (fun h242 => ?_)
  refine rhF.putr (pc := 393) dX12_init_393 fl_X12_163 h242 (fun q hq => by cases hq; exact Or.inr ⟨rfl, rfl, rfl⟩) (Or.inr ⟨_, rfl⟩) (fun _ => rfl) ?_
  refine rhF.aload_n (pc := 396) dX12_init_396 0 rfl ?_
  refine rhF.bipush (pc := 397) (v := 20) dX12_init_397 (by decide) ?_
  refine rhF.ck (fun h244 => ?_)
  refine rhF.newI (pc := 399) dX12_init_399 ac_int h244 ?_
  refine rhF.ck (fun h247 => ?_)
  refine rhF.putr (pc := 401) dX12_init_401 fl_X12_166 h247 (fun q hq => by cases hq; exact Or.inr ⟨rfl, rfl, rfl⟩) (Or.inr ⟨_, rfl⟩) (fun _ => rfl) ?_
  refine rhF.aload_n (pc := 404) dX12_init_404 0 rfl ?_
  refine rhF.bipush (pc := 405) (v := 20) dX12_init_405 (by decide) ?_
  refine rhF.ck (fun h249 => ?_)
  refine rhF.newI (pc := 407) dX12_init_407 ac_int h249 ?_
  refine rhF.ck (fun h252 => ?_)
  refine rhF.putr (pc := 409) dX12_init_409 fl_X12_169 h252 (fun q hq => by cases hq; exact Or.inr ⟨rfl, rfl, rfl⟩) (Or.inr ⟨_, rfl⟩) (fun _ => rfl) ?_
  refine rhF.aload_n (pc := 412) dX12_init_412 0 rfl ?_
  refine rhF.bipush (pc := 413) (v := 20) dX12_init_413 (by decide) ?_
  refine rhF.ck (fun h254 => ?_)
  refine rhF.newI (pc := 415) dX12_init_415 ac_int h254 ?_
  refine rhF.ck (fun h257 => ?_)
  refine rhF.putr (pc := 417) dX12_init_417 fl_X12_172 h257 (fun q hq => by cases hq; exact Or.inr ⟨rfl, rfl, rfl⟩) (Or.inr ⟨_, rfl⟩) (fun _ => rfl) ?_
  refine rhF.aload_n (pc := 420) dX12_init_420 0 rfl ?_
  refine rhF.bipush (pc := 421) (v := 8) dX12_init_421 (by decide) ?_
  refine rhF.ck (fun h259 => ?_)
  refine rhF.newI (pc := 423) dX12_init_423 ac_int h259 ?_
  refine rhF.ck (fun h262 => ?_)
  refine rhF.putr (pc := 425) dX12_init_425 fl_X12_175 h262 (fun q hq => by cases hq; exact Or.inr ⟨rfl, rfl, rfl⟩) (Or.inr ⟨_, rfl⟩) (fun _ => rfl) ?_
  refine rhF.aload_n (pc := 428) dX12_init_428 0 rfl ?_
  refine rhF.bipush (pc := 429) (v := 32) dX12_init_429 (by decide) ?_
  refine rhF.ck (fun h264 => ?_)
  refine rhF.newI (pc := 431) dX12_init_431 ac_int h264 ?_
  refine rhF.ck (fun h267 => ?_)
  refine rhF.putr (pc := 433) dX12_init_433 fl_X12_178 h267 (fun q hq => by cases hq; exact Or.inr ⟨rfl, rfl, rfl⟩) (Or.inr ⟨_, rfl⟩) (fun _ => rfl) ?_
  refine rhF.aload_n (pc := 436) dX12_init_436 0 rfl ?_
  refine rhF.bipush (pc := 437) (v := 24) dX12_init_437 (by decide) ?_
  refine rhF.ck (fun h269 => ?_)
  refine rhF.newI (pc := 439) dX12_init_439 ac_int h269 ?_
  refine rhF.ck (fun h272 => ?_)
  refine rhF.putr (pc := 441) dX12_init_441 fl_X12_181 h272 (fun q hq => by cases hq; exact Or.inr ⟨rfl, rfl, rfl⟩) (Or.inr ⟨_, rfl⟩) (fun _ => rfl) ?_
  refine rhF.aload_n (pc := 444) dX12_init_444 0 rfl ?_
  refine rhF.iconst (pc := 445) (v := 4) dX12_init_445 (by decide) ?_
  refine rhF.ck (fun h274 => ?_)
  refine rhF.newI (pc := 446) dX12_init_446 ac_int h274 ?_
  refine rhF.ck (fun h277 => ?_)
  refine rhF.putr (pc := 448) dX12_init_448 fl_X12_184 h277 (fun q hq => by cases hq; exact Or.inr ⟨rfl, rfl, rfl⟩) (Or.inr ⟨_, rfl⟩) (fun _ => rfl) ?_
  refine rhF.aload_n (pc := 451) dX12_init_451 0 rfl ?_
  refine rhF.bipush (pc := 452) (v := 20) dX12_init_452 (by decide) ?_
  refine rhF.ck (fun h279 => ?_)
  refine rhF.newZ (pc := 454) dX12_init_454 ac_boolean h279 ?_
  refine rhF.ck (fun h282 => ?_)
  refine rhF.putr (pc := 456) dX12_init_456 fl_X12_187 h282 (fun q hq => by cases hq; exact Or.inr ⟨rfl, rfl, rfl⟩) (Or.inr ⟨_, rfl⟩) (fun _ => rfl) ?_
  refine rhF.aload_n (pc := 459) dX12_init_459 0 rfl ?_
  refine rhF.iconst (pc := 460) (v := 3) dX12_init_460 (by decide) ?_
  refine rhF.ck (fun h284 => ?_)
  refine rhF.newI (pc := 461) dX12_init_461 ac_int h284 ?_
  refine rhF.ck (fun h287 => ?_)
  refine rhF.putr (pc := 463) dX12_init_463 fl_X12_190 h287 (fun q hq => by cases hq; exact Or.inr ⟨rfl, rfl, rfl⟩) (Or.inr ⟨_, rfl⟩) (fun _ => rfl) ?_
  refine rhF.aload_n (pc := 466) dX12_init_466 0 rfl ?_
  refine rhF.iconst (pc := 467) (v := 3) dX12_init_467 (by decide) ?_
  refine rhF.ck (fun h289 => ?_)
  refine rhF.newI (pc := 468) dX12_init_468 ac_int h289 ?_
  refine rhF.ck (fun h292 => ?_)
  refine rhF.putr (pc := 470) dX12_init_470 fl_X12_193 h292 (fun q hq => by cases hq; exact Or.inr ⟨rfl, rfl, rfl⟩) (Or.inr ⟨_, rfl⟩) (fun _ => rfl) ?_
  refine rhF.aload_n (pc := 473) dX12_init_473 0 rfl ?_
  refine rhF.bipush (pc := 474) (v := 24) dX12_init_474 (by decide) ?_
  refine rhF.ck (fun h294 => ?_)
  refine rhF.newI (pc := 476) dX12_init_476 ac_int h294 ?_
  refine rhF.ck (fun h297 => ?_)
  refine rhF.putr (pc := 478) dX12_init_478 fl_X12_196 h297 (fun q hq => by cases hq; exact Or.inr ⟨rfl, rfl, rfl⟩) (Or.inr ⟨_, rfl⟩) (fun _ => rfl) ?_
  refine rhF.aload_n (pc := 481) dX12_init_481 0 rfl ?_
  refine rhF.bipush (pc := 482) (v := 18) dX12_init_482 (by decide) ?_
  refine rhF.ck (fun h299 => ?_)
  refine rhF.newI (pc := 484) dX12_init_484 ac_int h299 ?_
  refine rhF.ck (fun h302 => ?_)
  refine rhF.putr (pc := 486) dX12_init_486 fl_X12_199 h302 (fun q hq => by cases hq; exact Or.inr ⟨rfl, rfl, rfl⟩) (Or.inr ⟨_, rfl⟩) (fun _ => rfl) ?_
  refine rhF.aload_n (pc := 489) dX12_init_489 0 rfl ?_
  refine rhF.sipush (pc := 490) (v := 900) dX12_init_490 (by decide) ?_
  refine rhF.ck (fun h304 => ?_)
  refine rhF.newI (pc := 493) dX12_init_493 ac_int h304 ?_
  refine rhF.ck (fun h307 => ?_)
  refine rhF.putr (pc := 495) dX12_init_495 fl_X12_202 h307 (fun q hq => by cases hq; exact Or.inr ⟨rfl, rfl, rfl⟩) (Or.inr ⟨_, rfl⟩) (fun _ => rfl) ?_
  refine rhF.aload_n (pc := 498) dX12_init_498 0 rfl ?_
  refine rhF.sipush (pc := 499) (v := 900) dX12_init_499 (by decide) ?_
  refine rhF.ck (fun h309 => ?_)
  refine rhF.newI (pc := 502) dX12_init_502 ac_int h309 ?_
  refine rhF.ck (fun h312 => ?_)
  refine rhF.putr (pc := 504) dX12_init_504 fl_X12_205 h312 (fun q hq => by cases hq; exact Or.inr ⟨rfl, rfl, rfl⟩) (Or.inr ⟨_, rfl⟩) (fun _ => rfl) ?_
  refine rhF.aload_n (pc := 507) dX12_init_507 0 rfl ?_
  refine rhF.callV (pc := 508) (ci := 12) (embc := rhe1U _) [] dX12_init_508 ml_X12_208 mv_X12_clearBank ⟨_, rfl, rfl⟩ h312 (c_X12_clearBank _ _ _ _) (by decide) (by decide) rfl (Nat.le_of_ble_eq_true rfl) (fun r314 _ => ?_)
  refine rhF.aload_n (pc := 511) dX12_init_511 0 rfl ?_
  refine rhF.callV (pc := 512) (ci := 12) (embc := rhe1U _) [] dX12_init_512 ml_X12_211 mv_X12_begin ⟨_, rfl, rfl⟩ h312 (c_X12_begin _ _ _ _) (by decide) (by decide) rfl (Nat.le_of_ble_eq_true rfl) (fun r315 _ => ?_)
  refine rhF.iconst (pc := 515) (v := 0) dX12_init_515 (by decide) ?_
  refine rhF.istore_n (pc := 516) (L' := [(1, rhI _), (0, rhR _)]) dX12_init_516 (by decide) rfl ?_
  refine rhF.sub [1, 0] rfl ?_
  exact (b_X12_init_517 rhFU) _ _ _ _
theorem c_X12_init (E : rhE) (Γ : rhG) (M : rhM) (v0 : Nat) : ∀ a, f_X12_init Γ M v0 = some a → rhC E 7 yX12_init cX12_init 2 none [rhR v0] Γ M (rhe2U a) := rhF.met (by decide +kernel) (Nat.le_of_ble_eq_true rfl) (b_X12_init (Γ0 := Γ) Γ M v0)
def f_X12_isBefore (Γ : rhG) (M : rhM) (v0 : Nat) (v1 : Int32) (v2 : Int32) : Option (Int32) :=
  rhck (Γ.2.2.1 v0 = 13) <|
  rhck (Γ.2.2.1 (M.2.2 v0 57) = 15) <|
  rhck (0 ≤ (v1).toInt ∧ (v1).toInt < (Γ.2.2.2 (M.2.2 v0 57) : Nat)) <|
  rhck (0 ≤ (v2).toInt ∧ (v2).toInt < (Γ.2.2.2 (M.2.2 v0 57) : Nat)) <|
  if (M.1 (M.2.2 v0 57) v1.toNatClampNeg) = (M.1 (M.2.2 v0 57) v2.toNatClampNeg) then
    (rhck (Γ.2.2.1 (M.2.2 v0 56) = 15) <|
    rhck (0 ≤ (v1).toInt ∧ (v1).toInt < (Γ.2.2.2 (M.2.2 v0 56) : Nat)) <|
    rhck (0 ≤ (v2).toInt ∧ (v2).toInt < (Γ.2.2.2 (M.2.2 v0 56) : Nat)) <|
    if (M.1 (M.2.2 v0 56) v1.toNatClampNeg) < (M.1 (M.2.2 v0 56) v2.toNatClampNeg) then
      (some 1)
    else
      some 0)
  else
    if (M.1 (M.2.2 v0 57) v1.toNatClampNeg) < (M.1 (M.2.2 v0 57) v2.toNatClampNeg) then
      (some 1)
    else
      some 0
set_option maxHeartbeats 4000000 in
set_option maxRecDepth 100000 in
theorem b_X12_isBefore {E : rhE} {Γ : rhG} {M : rhM} : ∀ (v0 : Nat) (v1 : Int32) (v2 : Int32), rhF E 1 3 yX12_isBefore cX12_isBefore (some .boolean) Γ (rhe0I Γ M) (f_X12_isBefore Γ M v0 v1 v2) 0 [(0, rhR v0), (1, rhI v1), (2, rhI v2)] [] Γ M := by
  intro v0 v1 v2
  rw [f_X12_isBefore]
  refine rhF.aload_n (pc := 0) dX12_isBefore_0 0 rfl ?_
  refine rhF.ck (fun h1 => ?_)
  refine rhF.get (pc := 1) (rhR _) dX12_isBefore_1 fl_X12_132 h1 rfl ?_
  refine rhF.iload_n (pc := 4) dX12_isBefore_4 1 rfl ?_
  refine rhF.ck (fun h2 => ?_)
  refine rhF.ck (fun h3 => ?_)
  refine rhF.iald (pc := 5) dX12_isBefore_5 h2 h3 ?_
  refine rhF.aload_n (pc := 6) dX12_isBefore_6 0 rfl ?_
  refine rhF.get (pc := 7) (rhR _) dX12_isBefore_7 fl_X12_132 h1 rfl ?_
  refine rhF.iload_n (pc := 10) dX12_isBefore_10 2 rfl ?_
  refine rhF.ck (fun h4 => ?_)
  refine rhF.iald (pc := 11) dX12_isBefore_11 h2 h4 ?_
  refine rhF.icmp_eq (pc := 12) 38 dX12_isBefore_12 (by decide) (fun h5 => ?_) (fun h5 => ?_)
  · refine rhF.aload_n (pc := 38) dX12_isBefore_38 0 rfl ?_
    refine rhF.get (pc := 39) (rhR _) dX12_isBefore_39 fl_X12_129 h1 rfl ?_
    refine rhF.iload_n (pc := 42) dX12_isBefore_42 1 rfl ?_
    refine rhF.ck (fun h6 => ?_)
    refine rhF.ck (fun h7 => ?_)
    refine rhF.iald (pc := 43) dX12_isBefore_43 h6 h7 ?_
    refine rhF.aload_n (pc := 44) dX12_isBefore_44 0 rfl ?_
    refine rhF.get (pc := 45) (rhR _) dX12_isBefore_45 fl_X12_129 h1 rfl ?_
    refine rhF.iload_n (pc := 48) dX12_isBefore_48 2 rfl ?_
    refine rhF.ck (fun h8 => ?_)
    refine rhF.iald (pc := 49) dX12_isBefore_49 h6 h8 ?_
    refine rhF.icmp_ge (pc := 50) 57 dX12_isBefore_50 (by decide) (fun h9 => ?_) (fun h9 => ?_)
    · refine rhF.iconst (pc := 53) (v := 1) dX12_isBefore_53 (by decide) ?_
      refine rhF.goto (pc := 54) 58 dX12_isBefore_54 (by decide) ?_
      exact rhF.zret (pc := 58) dX12_isBefore_58 rfl rfl rfl
    · refine rhF.iconst (pc := 57) (v := 0) dX12_isBefore_57 (by decide) ?_
      exact rhF.zret (pc := 58) dX12_isBefore_58 rfl rfl rfl
  · refine rhF.aload_n (pc := 15) dX12_isBefore_15 0 rfl ?_
    refine rhF.get (pc := 16) (rhR _) dX12_isBefore_16 fl_X12_132 h1 rfl ?_
    refine rhF.iload_n (pc := 19) dX12_isBefore_19 1 rfl ?_
    refine rhF.iald (pc := 20) dX12_isBefore_20 h2 h3 ?_
    refine rhF.aload_n (pc := 21) dX12_isBefore_21 0 rfl ?_
    refine rhF.get (pc := 22) (rhR _) dX12_isBefore_22 fl_X12_132 h1 rfl ?_
    refine rhF.iload_n (pc := 25) dX12_isBefore_25 2 rfl ?_
    refine rhF.iald (pc := 26) dX12_isBefore_26 h2 h4 ?_
    refine rhF.icmp_ge (pc := 27) 34 dX12_isBefore_27 (by decide) (fun h10 => ?_) (fun h10 => ?_)
    · refine rhF.iconst (pc := 30) (v := 1) dX12_isBefore_30 (by decide) ?_
      refine rhF.goto (pc := 31) 58 dX12_isBefore_31 (by decide) ?_
      exact rhF.zret (pc := 58) dX12_isBefore_58 rfl rfl rfl
    · refine rhF.iconst (pc := 34) (v := 0) dX12_isBefore_34 (by decide) ?_
      refine rhF.goto (pc := 35) 58 dX12_isBefore_35 (by decide) ?_
      exact rhF.zret (pc := 58) dX12_isBefore_58 rfl rfl rfl
theorem c_X12_isBefore (E : rhE) (Γ : rhG) (M : rhM) (v0 : Nat) (v1 : Int32) (v2 : Int32) : ∀ a, f_X12_isBefore Γ M v0 v1 v2 = some a → rhC E 1 yX12_isBefore cX12_isBefore 3 (some .boolean) [rhR v0, rhI v1, rhI v2] Γ M ((rhe0I Γ M) a) := rhF.met (by decide +kernel) (Nat.le_of_ble_eq_true rfl) (b_X12_isBefore v0 v1 v2)
def f_X12_isFull (Γ : rhG) (M : rhM) (v0 : Nat) : Option (Int32) :=
  rhck (Γ.2.2.1 v0 = 13) <|
  (f_X12_isWord Γ M v0 ((1918986604 : Int64))).bind fun r2 =>
  if r2 = 0 then
    ((f_X12_isWord Γ M v0 ((448546567013 : Int64))).bind fun r4 =>
    if r4 = 0 then
      ((f_X12_isWord Γ M v0 ((108187867505765 : Int64))).bind fun r6 =>
      if r6 = 0 then
        ((f_X12_isWord Γ M v0 ((1852138347 : Int64))).bind fun r8 =>
        if r8 = 0 then
          ((f_X12_isWord Γ M v0 ((431415719795 : Int64))).bind fun r10 =>
          if r10 = 0 then
            ((f_X12_isWord Γ M v0 ((7102839 : Int64))).bind fun r12 =>
            if r12 = 0 then
              (some 1)
            else
              rhck (Γ.2.2.1 (M.2.2 v0 25) = 17) <|
              rhck (0 ≤ (M.1 v0 35).toInt ∧ (M.1 v0 35).toInt < (Γ.2.2.2 (M.2.2 v0 25) : Nat)) <|
              if (M.1 (M.2.2 v0 25) (M.1 v0 35).toNatClampNeg) = 0 then
                (some 0)
              else
                some 1)
          else
            rhck (Γ.2.2.1 (M.2.2 v0 24) = 17) <|
            rhck (0 ≤ (M.1 v0 35).toInt ∧ (M.1 v0 35).toInt < (Γ.2.2.2 (M.2.2 v0 24) : Nat)) <|
            rhck (M.1 (M.2.2 v0 24) (M.1 v0 35).toNatClampNeg = 0 ∨ M.1 (M.2.2 v0 24) (M.1 v0 35).toNatClampNeg = 1) <|
            some (M.1 (M.2.2 v0 24) (M.1 v0 35).toNatClampNeg))
        else
          rhck (Γ.2.2.1 (M.2.2 v0 23) = 17) <|
          rhck (0 ≤ (M.1 v0 35).toInt ∧ (M.1 v0 35).toInt < (Γ.2.2.2 (M.2.2 v0 23) : Nat)) <|
          rhck (M.1 (M.2.2 v0 23) (M.1 v0 35).toNatClampNeg = 0 ∨ M.1 (M.2.2 v0 23) (M.1 v0 35).toNatClampNeg = 1) <|
          some (M.1 (M.2.2 v0 23) (M.1 v0 35).toNatClampNeg))
      else
        rhck (Γ.2.2.1 (M.2.2 v0 13) = 15) <|
        rhck (0 ≤ (M.1 v0 35).toInt ∧ (M.1 v0 35).toInt < (Γ.2.2.2 (M.2.2 v0 13) : Nat)) <|
        if (M.1 (M.2.2 v0 13) (M.1 v0 35).toNatClampNeg) = 20 then
          (some 1)
        else
          some 0)
    else
      rhck (Γ.2.2.1 (M.2.2 v0 12) = 15) <|
      rhck (0 ≤ (M.1 v0 35).toInt ∧ (M.1 v0 35).toInt < (Γ.2.2.2 (M.2.2 v0 12) : Nat)) <|
      if (M.1 (M.2.2 v0 12) (M.1 v0 35).toNatClampNeg) = 8 then
        (some 1)
      else
        some 0)
  else
    rhck (Γ.2.2.1 (M.2.2 v0 11) = 15) <|
    rhck (0 ≤ (M.1 v0 35).toInt ∧ (M.1 v0 35).toInt < (Γ.2.2.2 (M.2.2 v0 11) : Nat)) <|
    if (M.1 (M.2.2 v0 11) (M.1 v0 35).toNatClampNeg) = 5 then
      (some 1)
    else
      some 0
set_option maxHeartbeats 4000000 in
set_option maxRecDepth 100000 in
theorem b_X12_isFull {E : rhE} {Γ : rhG} {M : rhM} : ∀ (v0 : Nat), rhF E 5 1 yX12_isFull cX12_isFull (some .boolean) Γ (rhe0I Γ M) (f_X12_isFull Γ M v0) 0 [(0, rhR v0)] [] Γ M := by
  intro v0
  rw [f_X12_isFull]
  refine rhF.aload_n (pc := 0) dX12_isFull_0 0 rfl ?_
  refine rhF.ldc2 (pc := 1) dX12_isFull_1 k_X12_220 ?_
  refine rhF.ck (fun h1 => ?_)
  refine rhF.callV (pc := 4) (ci := 12) (embc := rhe0I _ _) [rhJ _] dX12_isFull_4 ml_X12_304 mv_X12_isWord ⟨_, rfl, rfl⟩ h1 (c_X12_isWord _ _ _ _ _) (by decide) (by decide) rfl (Nat.le_of_ble_eq_true rfl) (fun r2 _ => ?_)
  refine rhF.if_eq (pc := 7) 29 dX12_isFull_7 (by decide) (fun h3 => ?_) (fun h3 => ?_)
  · refine rhF.aload_n (pc := 29) dX12_isFull_29 0 rfl ?_
    refine rhF.ldc2 (pc := 30) dX12_isFull_30 k_X12_224 ?_
    refine rhF.callV (pc := 33) (ci := 12) (embc := rhe0I _ _) [rhJ _] dX12_isFull_33 ml_X12_304 mv_X12_isWord ⟨_, rfl, rfl⟩ h1 (c_X12_isWord _ _ _ _ _) (by decide) (by decide) rfl (Nat.le_of_ble_eq_true rfl) (fun r4 _ => ?_)
    refine rhF.if_eq (pc := 36) 59 dX12_isFull_36 (by decide) (fun h5 => ?_) (fun h5 => ?_)
    · refine rhF.aload_n (pc := 59) dX12_isFull_59 0 rfl ?_
      refine rhF.ldc2 (pc := 60) dX12_isFull_60 k_X12_230 ?_
      refine rhF.callV (pc := 63) (ci := 12) (embc := rhe0I _ _) [rhJ _] dX12_isFull_63 ml_X12_304 mv_X12_isWord ⟨_, rfl, rfl⟩ h1 (c_X12_isWord _ _ _ _ _) (by decide) (by decide) rfl (Nat.le_of_ble_eq_true rfl) (fun r6 _ => ?_)
      refine rhF.if_eq (pc := 66) 89 dX12_isFull_66 (by decide) (fun h7 => ?_) (fun h7 => ?_)
      · refine rhF.aload_n (pc := 89) dX12_isFull_89 0 rfl ?_
        refine rhF.ldc2 (pc := 90) dX12_isFull_90 k_X12_234 ?_
        refine rhF.callV (pc := 93) (ci := 12) (embc := rhe0I _ _) [rhJ _] dX12_isFull_93 ml_X12_304 mv_X12_isWord ⟨_, rfl, rfl⟩ h1 (c_X12_isWord _ _ _ _ _) (by decide) (by decide) rfl (Nat.le_of_ble_eq_true rfl) (fun r8 _ => ?_)
        refine rhF.if_eq (pc := 96) 109 dX12_isFull_96 (by decide) (fun h9 => ?_) (fun h9 => ?_)
        · refine rhF.aload_n (pc := 109) dX12_isFull_109 0 rfl ?_
          refine rhF.ldc2 (pc := 110) dX12_isFull_110 k_X12_236 ?_
          refine rhF.callV (pc := 113) (ci := 12) (embc := rhe0I _ _) [rhJ _] dX12_isFull_113 ml_X12_304 mv_X12_isWord ⟨_, rfl, rfl⟩ h1 (c_X12_isWord _ _ _ _ _) (by decide) (by decide) rfl (Nat.le_of_ble_eq_true rfl) (fun r10 _ => ?_)
          refine rhF.if_eq (pc := 116) 129 dX12_isFull_116 (by decide) (fun h11 => ?_) (fun h11 => ?_)
          · refine rhF.aload_n (pc := 129) dX12_isFull_129 0 rfl ?_
            refine rhF.ldc2 (pc := 130) dX12_isFull_130 k_X12_238 ?_
            refine rhF.callV (pc := 133) (ci := 12) (embc := rhe0I _ _) [rhJ _] dX12_isFull_133 ml_X12_304 mv_X12_isWord ⟨_, rfl, rfl⟩ h1 (c_X12_isWord _ _ _ _ _) (by decide) (by decide) rfl (Nat.le_of_ble_eq_true rfl) (fun r12 _ => ?_)
            refine rhF.if_eq (pc := 136) 151 dX12_isFull_136 (by decide) (fun h13 => ?_) (fun h13 => ?_)
            · refine rhF.iconst (pc := 151) (v := 1) dX12_isFull_151 (by decide) ?_
              refine rhF.goto (pc := 152) 156 dX12_isFull_152 (by decide) ?_
              exact rhF.zret (pc := 156) dX12_isFull_156 rfl rfl rfl
            · refine rhF.aload_n (pc := 139) dX12_isFull_139 0 rfl ?_
              refine rhF.get (pc := 140) (rhR _) dX12_isFull_140 fl_X12_64 h1 rfl ?_
              refine rhF.aload_n (pc := 143) dX12_isFull_143 0 rfl ?_
              refine rhF.get (pc := 144) (rhI _) dX12_isFull_144 fl_X12_318 h1 rfl ?_
              refine rhF.ck (fun h14 => ?_)
              refine rhF.ck (fun h15 => ?_)
              refine rhF.zald (pc := 147) dX12_isFull_147 h14 h15 ?_
              refine rhF.if_eq (pc := 148) 155 dX12_isFull_148 (by decide) (fun h16 => ?_) (fun h16 => ?_)
              · refine rhF.iconst (pc := 155) (v := 0) dX12_isFull_155 (by decide) ?_
                exact rhF.zret (pc := 156) dX12_isFull_156 rfl rfl rfl
              · refine rhF.iconst (pc := 151) (v := 1) dX12_isFull_151 (by decide) ?_
                refine rhF.goto (pc := 152) 156 dX12_isFull_152 (by decide) ?_
                exact rhF.zret (pc := 156) dX12_isFull_156 rfl rfl rfl
          · refine rhF.aload_n (pc := 119) dX12_isFull_119 0 rfl ?_
            refine rhF.get (pc := 120) (rhR _) dX12_isFull_120 fl_X12_61 h1 rfl ?_
            refine rhF.aload_n (pc := 123) dX12_isFull_123 0 rfl ?_
            refine rhF.get (pc := 124) (rhI _) dX12_isFull_124 fl_X12_318 h1 rfl ?_
            refine rhF.ck (fun h17 => ?_)
            refine rhF.ck (fun h18 => ?_)
            refine rhF.zald (pc := 127) dX12_isFull_127 h17 h18 ?_
            refine rhF.ck (fun h19 => ?_)
            exact rhF.zret (pc := 128) dX12_isFull_128 rfl (rhzb h19) rfl
        · refine rhF.aload_n (pc := 99) dX12_isFull_99 0 rfl ?_
          refine rhF.get (pc := 100) (rhR _) dX12_isFull_100 fl_X12_57 h1 rfl ?_
          refine rhF.aload_n (pc := 103) dX12_isFull_103 0 rfl ?_
          refine rhF.get (pc := 104) (rhI _) dX12_isFull_104 fl_X12_318 h1 rfl ?_
          refine rhF.ck (fun h20 => ?_)
          refine rhF.ck (fun h21 => ?_)
          refine rhF.zald (pc := 107) dX12_isFull_107 h20 h21 ?_
          refine rhF.ck (fun h22 => ?_)
          exact rhF.zret (pc := 108) dX12_isFull_108 rfl (rhzb h22) rfl
      · refine rhF.aload_n (pc := 69) dX12_isFull_69 0 rfl ?_
        refine rhF.get (pc := 70) (rhR _) dX12_isFull_70 fl_X12_27 h1 rfl ?_
        refine rhF.aload_n (pc := 73) dX12_isFull_73 0 rfl ?_
        refine rhF.get (pc := 74) (rhI _) dX12_isFull_74 fl_X12_318 h1 rfl ?_
        refine rhF.ck (fun h23 => ?_)
        refine rhF.ck (fun h24 => ?_)
        refine rhF.iald (pc := 77) dX12_isFull_77 h23 h24 ?_
        refine rhF.bipush (pc := 78) (v := 20) dX12_isFull_78 (by decide) ?_
        refine rhF.icmp_ne (pc := 80) 87 dX12_isFull_80 (by decide) (fun h25 => ?_) (fun h25 => ?_)
        · refine rhF.iconst (pc := 83) (v := 1) dX12_isFull_83 (by decide) ?_
          refine rhF.goto (pc := 84) 88 dX12_isFull_84 (by decide) ?_
          exact rhF.zret (pc := 88) dX12_isFull_88 rfl rfl rfl
        · refine rhF.iconst (pc := 87) (v := 0) dX12_isFull_87 (by decide) ?_
          exact rhF.zret (pc := 88) dX12_isFull_88 rfl rfl rfl
    · refine rhF.aload_n (pc := 39) dX12_isFull_39 0 rfl ?_
      refine rhF.get (pc := 40) (rhR _) dX12_isFull_40 fl_X12_24 h1 rfl ?_
      refine rhF.aload_n (pc := 43) dX12_isFull_43 0 rfl ?_
      refine rhF.get (pc := 44) (rhI _) dX12_isFull_44 fl_X12_318 h1 rfl ?_
      refine rhF.ck (fun h26 => ?_)
      refine rhF.ck (fun h27 => ?_)
      refine rhF.iald (pc := 47) dX12_isFull_47 h26 h27 ?_
      refine rhF.bipush (pc := 48) (v := 8) dX12_isFull_48 (by decide) ?_
      refine rhF.icmp_ne (pc := 50) 57 dX12_isFull_50 (by decide) (fun h28 => ?_) (fun h28 => ?_)
      · refine rhF.iconst (pc := 53) (v := 1) dX12_isFull_53 (by decide) ?_
        refine rhF.goto (pc := 54) 58 dX12_isFull_54 (by decide) ?_
        exact rhF.zret (pc := 58) dX12_isFull_58 rfl rfl rfl
      · refine rhF.iconst (pc := 57) (v := 0) dX12_isFull_57 (by decide) ?_
        exact rhF.zret (pc := 58) dX12_isFull_58 rfl rfl rfl
  · refine rhF.aload_n (pc := 10) dX12_isFull_10 0 rfl ?_
    refine rhF.get (pc := 11) (rhR _) dX12_isFull_11 fl_X12_20 h1 rfl ?_
    refine rhF.aload_n (pc := 14) dX12_isFull_14 0 rfl ?_
    refine rhF.get (pc := 15) (rhI _) dX12_isFull_15 fl_X12_318 h1 rfl ?_
    refine rhF.ck (fun h29 => ?_)
    refine rhF.ck (fun h30 => ?_)
    refine rhF.iald (pc := 18) dX12_isFull_18 h29 h30 ?_
    refine rhF.iconst (pc := 19) (v := 5) dX12_isFull_19 (by decide) ?_
    refine rhF.icmp_ne (pc := 20) 27 dX12_isFull_20 (by decide) (fun h31 => ?_) (fun h31 => ?_)
    · refine rhF.iconst (pc := 23) (v := 1) dX12_isFull_23 (by decide) ?_
      refine rhF.goto (pc := 24) 28 dX12_isFull_24 (by decide) ?_
      exact rhF.zret (pc := 28) dX12_isFull_28 rfl rfl rfl
    · refine rhF.iconst (pc := 27) (v := 0) dX12_isFull_27 (by decide) ?_
      exact rhF.zret (pc := 28) dX12_isFull_28 rfl rfl rfl
theorem c_X12_isFull (E : rhE) (Γ : rhG) (M : rhM) (v0 : Nat) : ∀ a, f_X12_isFull Γ M v0 = some a → rhC E 5 yX12_isFull cX12_isFull 1 (some .boolean) [rhR v0] Γ M ((rhe0I Γ M) a) := rhF.met (by decide +kernel) (Nat.le_of_ble_eq_true rfl) (b_X12_isFull v0)
def f_X12_worthOfRow_4 (Γ : rhG) (M : rhM) : Nat → Nat → Int32 → Int32 → Option (Int32)
  | 0, _, _, _ => none
  | n + 1, v0, v1, v2 =>
    rhck (Γ.2.2.1 v0 = 13) <|
    (f_X12_railMany Γ M v0).bind fun r2 =>
    if 0 < r2 then
      (rhck (Γ.2.2.1 (M.2.2 v0 40) = 15) <|
      rhck (0 ≤ (0 : Int32).toInt ∧ (0 : Int32).toInt < (Γ.2.2.2 (M.2.2 v0 40) : Nat)) <|
      if v2 < (M.1 (M.2.2 v0 40) (0 : Int32).toNatClampNeg) then
        (rhck (Γ.2.2.1 (M.2.2 v0 39) = 15) <|
        rhck (0 ≤ (v2 - 1).toInt ∧ (v2 - 1).toInt < (Γ.2.2.2 (M.2.2 v0 39) : Nat)) <|
        rhck (0 ≤ (v2).toInt ∧ (v2).toInt < (Γ.2.2.2 (M.2.2 v0 39) : Nat)) <|
        rhck (Γ.2.2.1 (M.2.2 v0 22) = 15) <|
        rhck (0 ≤ (((64 * (M.1 v0 34)) + (8 * (M.1 (M.2.2 v0 39) (v2 - 1).toNatClampNeg))) + (M.1 (M.2.2 v0 39) v2.toNatClampNeg)).toInt ∧ (((64 * (M.1 v0 34)) + (8 * (M.1 (M.2.2 v0 39) (v2 - 1).toNatClampNeg))) + (M.1 (M.2.2 v0 39) v2.toNatClampNeg)).toInt < (Γ.2.2.2 (M.2.2 v0 22) : Nat)) <|
        let x12 := v1 + (M.1 (M.2.2 v0 22) (((64 * (M.1 v0 34)) + (8 * (M.1 (M.2.2 v0 39) (v2 - 1).toNatClampNeg))) + (M.1 (M.2.2 v0 39) v2.toNatClampNeg)).toNatClampNeg)
        let x13 : Int32 := v2 + 1
        f_X12_worthOfRow_4 Γ M n v0 x12 x13)
      else
        some v1)
    else
      some v1
def f_X12_worthOfRow (Γ : rhG) (M : rhM) (v0 : Nat) : Option (Int32) :=
  f_X12_worthOfRow_4 Γ M rhFU v0 0 1
set_option maxHeartbeats 4000000 in
set_option maxRecDepth 100000 in
theorem b_X12_worthOfRow_4 {E : rhE} {Γ : rhG} {M : rhM} : ∀ (n : Nat) (v0 : Nat) (v1 : Int32) (v2 : Int32), rhF E 5 3 yX12_worthOfRow cX12_worthOfRow (some .int) Γ (rhe0I Γ M) (f_X12_worthOfRow_4 Γ M n v0 v1 v2) 4 [(0, rhR v0), (1, rhI v1), (2, rhI v2)] [] Γ M := by
  intro n
  induction n with
  | zero => intro v0 v1 v2; rw [f_X12_worthOfRow_4]; exact rhF.nope
  | succ n ih =>
    intro v0 v1 v2
    rw [f_X12_worthOfRow_4]
    refine rhF.aload_n (pc := 4) dX12_worthOfRow_4 0 rfl ?_
    refine rhF.ck (fun h1 => ?_)
    refine rhF.callV (pc := 5) (ci := 12) (embc := rhe0I _ _) [] dX12_worthOfRow_5 ml_X12_412 mv_X12_railMany ⟨_, rfl, rfl⟩ h1 (c_X12_railMany _ _ _ _) (by decide) (by decide) rfl (Nat.le_of_ble_eq_true rfl) (fun r2 _ => ?_)
    refine rhF.if_le (pc := 8) 61 dX12_worthOfRow_8 (by decide) (fun h3 => ?_) (fun h3 => ?_)
    · refine rhF.iload_n (pc := 11) dX12_worthOfRow_11 2 rfl ?_
      refine rhF.aload_n (pc := 12) dX12_worthOfRow_12 0 rfl ?_
      refine rhF.get (pc := 13) (rhR _) dX12_worthOfRow_13 fl_X12_95 h1 rfl ?_
      refine rhF.iconst (pc := 16) (v := 0) dX12_worthOfRow_16 (by decide) ?_
      refine rhF.ck (fun h4 => ?_)
      refine rhF.ck (fun h5 => ?_)
      refine rhF.iald (pc := 17) dX12_worthOfRow_17 h4 h5 ?_
      refine rhF.icmp_ge (pc := 18) 61 dX12_worthOfRow_18 (by decide) (fun h6 => ?_) (fun h6 => ?_)
      · refine rhF.iload_n (pc := 21) dX12_worthOfRow_21 1 rfl ?_
        refine rhF.aload_n (pc := 22) dX12_worthOfRow_22 0 rfl ?_
        refine rhF.get (pc := 23) (rhR _) dX12_worthOfRow_23 fl_X12_54 h1 rfl ?_
        refine rhF.bipush (pc := 26) (v := 64) dX12_worthOfRow_26 (by decide) ?_
        refine rhF.aload_n (pc := 28) dX12_worthOfRow_28 0 rfl ?_
        refine rhF.get (pc := 29) (rhI _) dX12_worthOfRow_29 fl_X12_327 h1 rfl ?_
        refine rhF.imul (pc := 32) dX12_worthOfRow_32 ?_
        refine rhF.bipush (pc := 33) (v := 8) dX12_worthOfRow_33 (by decide) ?_
        refine rhF.aload_n (pc := 35) dX12_worthOfRow_35 0 rfl ?_
        refine rhF.get (pc := 36) (rhR _) dX12_worthOfRow_36 fl_X12_92 h1 rfl ?_
        refine rhF.iload_n (pc := 39) dX12_worthOfRow_39 2 rfl ?_
        refine rhF.iconst (pc := 40) (v := 1) dX12_worthOfRow_40 (by decide) ?_
        refine rhF.isub (pc := 41) dX12_worthOfRow_41 ?_
        refine rhF.ck (fun h7 => ?_)
        refine rhF.ck (fun h8 => ?_)
        refine rhF.iald (pc := 42) dX12_worthOfRow_42 h7 h8 ?_
        refine rhF.imul (pc := 43) dX12_worthOfRow_43 ?_
        refine rhF.iadd (pc := 44) dX12_worthOfRow_44 ?_
        refine rhF.aload_n (pc := 45) dX12_worthOfRow_45 0 rfl ?_
        refine rhF.get (pc := 46) (rhR _) dX12_worthOfRow_46 fl_X12_92 h1 rfl ?_
        refine rhF.iload_n (pc := 49) dX12_worthOfRow_49 2 rfl ?_
        refine rhF.ck (fun h9 => ?_)
        refine rhF.iald (pc := 50) dX12_worthOfRow_50 h7 h9 ?_
        refine rhF.iadd (pc := 51) dX12_worthOfRow_51 ?_
        refine rhF.ck (fun h10 => ?_)
        refine rhF.ck (fun h11 => ?_)
        refine rhF.iald (pc := 52) dX12_worthOfRow_52 h10 h11 ?_
        refine rhF.iadd (pc := 53) dX12_worthOfRow_53 ?_
        refine rhF.istore_n (pc := 54) (L' := [(1, rhI _), (0, rhR _), (2, rhI _)]) dX12_worthOfRow_54 (by decide) rfl ?_
        refine rhF.iinc (pc := 55) (L' := [(2, rhI _), (1, rhI _), (0, rhR _)]) dX12_worthOfRow_55 2 rfl rfl (by decide) rfl ?_
        refine rhF.goto (pc := 58) 4 dX12_worthOfRow_58 (by decide) ?_
        refine rhF.sub [2, 1, 0] rfl ?_
        exact ih _ _ _
      · refine rhF.iload_n (pc := 61) dX12_worthOfRow_61 1 rfl ?_
        exact rhF.zret (pc := 62) dX12_worthOfRow_62 rfl rfl rfl
    · refine rhF.iload_n (pc := 61) dX12_worthOfRow_61 1 rfl ?_
      exact rhF.zret (pc := 62) dX12_worthOfRow_62 rfl rfl rfl
set_option maxHeartbeats 4000000 in
set_option maxRecDepth 100000 in
theorem b_X12_worthOfRow {E : rhE} {Γ : rhG} {M : rhM} : ∀ (v0 : Nat), rhF E 5 3 yX12_worthOfRow cX12_worthOfRow (some .int) Γ (rhe0I Γ M) (f_X12_worthOfRow Γ M v0) 0 [(0, rhR v0)] [] Γ M := by
  intro v0
  rw [f_X12_worthOfRow]
  refine rhF.iconst (pc := 0) (v := 0) dX12_worthOfRow_0 (by decide) ?_
  refine rhF.istore_n (pc := 1) (L' := [(1, rhI _), (0, rhR _)]) dX12_worthOfRow_1 (by decide) rfl ?_
  refine rhF.iconst (pc := 2) (v := 1) dX12_worthOfRow_2 (by decide) ?_
  refine rhF.istore_n (pc := 3) (L' := [(2, rhI _), (1, rhI _), (0, rhR _)]) dX12_worthOfRow_3 (by decide) rfl ?_
  refine rhF.sub [2, 1, 0] rfl ?_
  exact (b_X12_worthOfRow_4 rhFU) _ _ _
theorem c_X12_worthOfRow (E : rhE) (Γ : rhG) (M : rhM) (v0 : Nat) : ∀ a, f_X12_worthOfRow Γ M v0 = some a → rhC E 5 yX12_worthOfRow cX12_worthOfRow 3 (some .int) [rhR v0] Γ M ((rhe0I Γ M) a) := rhF.met (by decide +kernel) (Nat.le_of_ble_eq_true rfl) (b_X12_worthOfRow v0)
def f_X12_judge_21 (k78 : rhM → Nat → Int32 → Int32 → Int32 → Option (Int32 × rhM)) (k131 : rhM → Nat → Int32 → Int32 → Option (Int32 × rhM)) (Γ : rhG) : Nat → rhM → Nat → Int32 → Int32 → Int32 → Option (Int32 × rhM)
  | 0, _, _, _, _, _ => none
  | n + 1, M, v0, v1, v2, v3 =>
    rhck (Γ.2.2.1 v0 = 13) <|
    if v3 < (M.1 v0 51) then
      (rhck (Γ.2.2.1 (M.2.2 v0 50) = 15) <|
      rhck (0 ≤ (v3).toInt ∧ (v3).toInt < (Γ.2.2.2 (M.2.2 v0 50) : Nat)) <|
      let x9 := (M.1 (M.2.2 v0 50) v3.toNatClampNeg) / 100
      let x10 := ((M.1 (M.2.2 v0 50) v3.toNatClampNeg) / 10) - ((M.1 (M.2.2 v0 50) v3.toNatClampNeg) / 10) / 10 * 10
      let x11 := (M.1 (M.2.2 v0 50) v3.toNatClampNeg) - (M.1 (M.2.2 v0 50) v3.toNatClampNeg) / 10 * 10
      (f_X12_isLawful Γ M v0 x9 x10 x11).bind fun r12 =>
      if r12.1 = 0 then
        (k78 r12.2 v0 v1 v2 v3)
      else
        (f_X12_sumOf Γ r12.2 v0 (r12.2.2.2 v0 20) x9 x10).bind fun r14 =>
        let x15 := v2 + r14
        (f_X12_moves Γ r12.2 v0 x9 x10 x11).bind fun r16 =>
        let x17 : Int32 := v3 + 1
        f_X12_judge_21 k78 k131 Γ n r16 v0 v1 x15 x17)
    else
      k131 M v0 v1 v2
def f_X12_judge_78 (Γ : rhG) (M : rhM) (v0 : Nat) (v1 : Int32) (v2 : Int32) (v3 : Int32) : Option (Int32 × rhM) :=
  if v1 = 0 then
    (some ((v3, M)))
  else
    if v1 = 1 then
      (some ((v2, M)))
    else
      rhck (Γ.2.2.1 v0 = 13) <|
      (f_X12_worthOfRow Γ M v0).bind fun r21 =>
      some ((r21, M))
def f_X12_judge_131 (Γ : rhG) (M : rhM) (v0 : Nat) (v1 : Int32) (v2 : Int32) : Option (Int32 × rhM) :=
  if v1 = 0 then
    (some (((-1), M)))
  else
    if v1 = 1 then
      (some ((v2, M)))
    else
      rhck (Γ.2.2.1 v0 = 13) <|
      (f_X12_worthOfRow Γ M v0).bind fun r25 =>
      some ((r25, M))
def f_X12_judge (Γ : rhG) (M : rhM) (v0 : Nat) (v1 : Int32) : Option (Int32 × rhM) :=
  (f_X12_isIn Γ M v1 (0 : Int32) (2 : Int32)).bind fun r1 =>
  if r1 = 0 then
    (some (((-1000000), M)))
  else
    rhck (Γ.2.2.1 v0 = 13) <|
    (f_X12_layNow Γ M v0).bind fun r4 =>
    f_X12_judge_21 (f_X12_judge_78 Γ) (f_X12_judge_131 Γ) Γ rhFU r4 v0 v1 0 0
set_option maxHeartbeats 4000000 in
set_option maxRecDepth 100000 in
theorem b_X12_judge_21 {E : rhE} {Γ : rhG} {k78 : rhM → Nat → Int32 → Int32 → Int32 → Option (Int32 × rhM)} {k131 : rhM → Nat → Int32 → Int32 → Option (Int32 × rhM)} (hk78 : ∀ (M : rhM) (v0 : Nat) (v1 : Int32) (v2 : Int32) (v3 : Int32), rhF E 9 7 yX12_judge cX12_judge (some .int) Γ (rhe1I Γ) (k78 M v0 v1 v2 v3) 78 [(0, rhR v0), (1, rhI v1), (2, rhI v2), (3, rhI v3)] [] Γ M) (hk131 : ∀ (M : rhM) (v0 : Nat) (v1 : Int32) (v2 : Int32), rhF E 9 7 yX12_judge cX12_judge (some .int) Γ (rhe1I Γ) (k131 M v0 v1 v2) 131 [(0, rhR v0), (1, rhI v1), (2, rhI v2)] [] Γ M) : ∀ (n : Nat) (M : rhM) (v0 : Nat) (v1 : Int32) (v2 : Int32) (v3 : Int32), rhF E 9 7 yX12_judge cX12_judge (some .int) Γ (rhe1I Γ) (f_X12_judge_21 k78 k131 Γ n M v0 v1 v2 v3) 21 [(0, rhR v0), (1, rhI v1), (2, rhI v2), (3, rhI v3)] [] Γ M := by
  intro n
  induction n with
  | zero => intro M v0 v1 v2 v3; rw [f_X12_judge_21]; exact rhF.nope
  | succ n ih =>
    intro M v0 v1 v2 v3
    rw [f_X12_judge_21]
    refine rhF.iload_n (pc := 21) dX12_judge_21 3 rfl ?_
    refine rhF.aload_n (pc := 22) dX12_judge_22 0 rfl ?_
    refine rhF.ck (fun h5 => ?_)
    refine rhF.get (pc := 23) (rhI _) dX12_judge_23 fl_X12_336 h5 rfl ?_
    refine rhF.icmp_ge (pc := 26) 131 dX12_judge_26 (by decide) (fun h6 => ?_) (fun h6 => ?_)
    · refine rhF.aload_n (pc := 29) dX12_judge_29 0 rfl ?_
      refine rhF.get (pc := 30) (rhR _) dX12_judge_30 fl_X12_116 h5 rfl ?_
      refine rhF.iload_n (pc := 33) dX12_judge_33 3 rfl ?_
      refine rhF.ck (fun h7 => ?_)
      refine rhF.ck (fun h8 => ?_)
      refine rhF.iald (pc := 34) dX12_judge_34 h7 h8 ?_
      refine rhF.bipush (pc := 35) (v := 100) dX12_judge_35 (by decide) ?_
      refine rhF.idivc (pc := 37) dX12_judge_37 (by decide) ?_
      refine rhF.istore (pc := 38) (L' := [(4, rhI _), (0, rhR _), (1, rhI _), (2, rhI _), (3, rhI _)]) dX12_judge_38 (by decide) rfl ?_
      refine rhF.aload_n (pc := 40) dX12_judge_40 1 rfl ?_
      refine rhF.get (pc := 41) (rhR _) dX12_judge_41 fl_X12_116 h5 rfl ?_
      refine rhF.iload_n (pc := 44) dX12_judge_44 4 rfl ?_
      refine rhF.iald (pc := 45) dX12_judge_45 h7 h8 ?_
      refine rhF.bipush (pc := 46) (v := 10) dX12_judge_46 (by decide) ?_
      refine rhF.idivc (pc := 48) dX12_judge_48 (by decide) ?_
      refine rhF.bipush (pc := 49) (v := 10) dX12_judge_49 (by decide) ?_
      refine rhF.iremc (pc := 51) dX12_judge_51 (by decide) ?_
      refine rhF.istore (pc := 52) (L' := [(5, rhI _), (4, rhI _), (0, rhR _), (1, rhI _), (2, rhI _), (3, rhI _)]) dX12_judge_52 (by decide) rfl ?_
      refine rhF.aload_n (pc := 54) dX12_judge_54 2 rfl ?_
      refine rhF.get (pc := 55) (rhR _) dX12_judge_55 fl_X12_116 h5 rfl ?_
      refine rhF.iload_n (pc := 58) dX12_judge_58 5 rfl ?_
      refine rhF.iald (pc := 59) dX12_judge_59 h7 h8 ?_
      refine rhF.bipush (pc := 60) (v := 10) dX12_judge_60 (by decide) ?_
      refine rhF.iremc (pc := 62) dX12_judge_62 (by decide) ?_
      refine rhF.istore (pc := 63) (L' := [(6, rhI _), (5, rhI _), (4, rhI _), (0, rhR _), (1, rhI _), (2, rhI _), (3, rhI _)]) dX12_judge_63 (by decide) rfl ?_
      refine rhF.aload_n (pc := 65) dX12_judge_65 3 rfl ?_
      refine rhF.iload (pc := 66) dX12_judge_66 2 rfl ?_
      refine rhF.iload (pc := 68) dX12_judge_68 1 rfl ?_
      refine rhF.iload (pc := 70) dX12_judge_70 0 rfl ?_
      refine rhF.callV (pc := 72) (ci := 12) (embc := rhe1I _) [rhI _, rhI _, rhI _] dX12_judge_72 ml_X12_471 mv_X12_isLawful ⟨_, rfl, rfl⟩ h5 (c_X12_isLawful _ _ _ _ _ _ _) (by decide) (by decide) rfl (Nat.le_of_ble_eq_true rfl) (fun r12 _ => ?_)
      refine rhF.if_ne (pc := 75) 100 dX12_judge_75 (by decide) (fun h13 => ?_) (fun h13 => ?_)
      · refine rhF.sub [3, 4, 5, 6] rfl ?_
        exact hk78 _ _ _ _ _
      · refine rhF.iload_n (pc := 100) dX12_judge_100 5 rfl ?_
        refine rhF.aload_n (pc := 101) dX12_judge_101 3 rfl ?_
        refine rhF.aload_n (pc := 102) dX12_judge_102 3 rfl ?_
        refine rhF.get (pc := 103) (rhR _) dX12_judge_103 fl_X12_48 h5 rfl ?_
        refine rhF.iload (pc := 106) dX12_judge_106 2 rfl ?_
        refine rhF.iload (pc := 108) dX12_judge_108 1 rfl ?_
        refine rhF.callV (pc := 110) (ci := 12) (embc := rhe0I _ _) [rhR _, rhI _, rhI _] dX12_judge_110 ml_X12_431 mv_X12_sumOf ⟨_, rfl, rfl⟩ h5 (c_X12_sumOf _ _ _ _ _ _ _) (by decide) (by decide) rfl (Nat.le_of_ble_eq_true rfl) (fun r14 _ => ?_)
        refine rhF.iadd (pc := 113) dX12_judge_113 ?_
        refine rhF.istore_n (pc := 114) (L' := [(2, rhI _), (6, rhI _), (5, rhI _), (4, rhI _), (0, rhR _), (1, rhI _), (3, rhI _)]) dX12_judge_114 (by decide) rfl ?_
        refine rhF.aload_n (pc := 115) dX12_judge_115 4 rfl ?_
        refine rhF.iload (pc := 116) dX12_judge_116 3 rfl ?_
        refine rhF.iload (pc := 118) dX12_judge_118 2 rfl ?_
        refine rhF.iload (pc := 120) dX12_judge_120 1 rfl ?_
        refine rhF.callV (pc := 122) (ci := 12) (embc := rhe1U _) [rhI _, rhI _, rhI _] dX12_judge_122 ml_X12_474 mv_X12_moves ⟨_, rfl, rfl⟩ h5 (c_X12_moves _ _ _ _ _ _ _) (by decide) (by decide) rfl (Nat.le_of_ble_eq_true rfl) (fun r16 _ => ?_)
        refine rhF.iinc (pc := 125) (L' := [(3, rhI _), (2, rhI _), (6, rhI _), (5, rhI _), (4, rhI _), (0, rhR _), (1, rhI _)]) dX12_judge_125 6 rfl rfl (by decide) rfl ?_
        refine rhF.goto (pc := 128) 21 dX12_judge_128 (by decide) ?_
        refine rhF.sub [5, 6, 1, 0] rfl ?_
        exact ih _ _ _ _ _
    · refine rhF.sub [0, 1, 2] rfl ?_
      exact hk131 _ _ _ _
set_option maxHeartbeats 4000000 in
set_option maxRecDepth 100000 in
theorem b_X12_judge_78 {E : rhE} {Γ : rhG} : ∀ (M : rhM) (v0 : Nat) (v1 : Int32) (v2 : Int32) (v3 : Int32), rhF E 9 7 yX12_judge cX12_judge (some .int) Γ (rhe1I Γ) (f_X12_judge_78 Γ M v0 v1 v2 v3) 78 [(0, rhR v0), (1, rhI v1), (2, rhI v2), (3, rhI v3)] [] Γ M := by
  intro M v0 v1 v2 v3
  rw [f_X12_judge_78]
  refine rhF.iload_n (pc := 78) dX12_judge_78 1 rfl ?_
  refine rhF.if_ne (pc := 79) 86 dX12_judge_79 (by decide) (fun h18 => ?_) (fun h18 => ?_)
  · refine rhF.iload_n (pc := 82) dX12_judge_82 3 rfl ?_
    refine rhF.goto (pc := 83) 99 dX12_judge_83 (by decide) ?_
    exact rhF.zret (pc := 99) dX12_judge_99 rfl rfl rfl
  · refine rhF.iload_n (pc := 86) dX12_judge_86 1 rfl ?_
    refine rhF.iconst (pc := 87) (v := 1) dX12_judge_87 (by decide) ?_
    refine rhF.icmp_ne (pc := 88) 95 dX12_judge_88 (by decide) (fun h19 => ?_) (fun h19 => ?_)
    · refine rhF.iload_n (pc := 91) dX12_judge_91 2 rfl ?_
      refine rhF.goto (pc := 92) 99 dX12_judge_92 (by decide) ?_
      exact rhF.zret (pc := 99) dX12_judge_99 rfl rfl rfl
    · refine rhF.aload_n (pc := 95) dX12_judge_95 0 rfl ?_
      refine rhF.ck (fun h20 => ?_)
      refine rhF.callV (pc := 96) (ci := 12) (embc := rhe0I _ _) [] dX12_judge_96 ml_X12_478 mv_X12_worthOfRow ⟨_, rfl, rfl⟩ h20 (c_X12_worthOfRow _ _ _ _) (by decide) (by decide) rfl (Nat.le_of_ble_eq_true rfl) (fun r21 _ => ?_)
      exact rhF.zret (pc := 99) dX12_judge_99 rfl rfl rfl
set_option maxHeartbeats 4000000 in
set_option maxRecDepth 100000 in
theorem b_X12_judge_131 {E : rhE} {Γ : rhG} : ∀ (M : rhM) (v0 : Nat) (v1 : Int32) (v2 : Int32), rhF E 9 7 yX12_judge cX12_judge (some .int) Γ (rhe1I Γ) (f_X12_judge_131 Γ M v0 v1 v2) 131 [(0, rhR v0), (1, rhI v1), (2, rhI v2)] [] Γ M := by
  intro M v0 v1 v2
  rw [f_X12_judge_131]
  refine rhF.iload_n (pc := 131) dX12_judge_131 1 rfl ?_
  refine rhF.if_ne (pc := 132) 139 dX12_judge_132 (by decide) (fun h22 => ?_) (fun h22 => ?_)
  · refine rhF.iconst (pc := 135) (v := (-1)) dX12_judge_135 (by decide) ?_
    refine rhF.goto (pc := 136) 152 dX12_judge_136 (by decide) ?_
    exact rhF.zret (pc := 152) dX12_judge_152 rfl rfl rfl
  · refine rhF.iload_n (pc := 139) dX12_judge_139 1 rfl ?_
    refine rhF.iconst (pc := 140) (v := 1) dX12_judge_140 (by decide) ?_
    refine rhF.icmp_ne (pc := 141) 148 dX12_judge_141 (by decide) (fun h23 => ?_) (fun h23 => ?_)
    · refine rhF.iload_n (pc := 144) dX12_judge_144 2 rfl ?_
      refine rhF.goto (pc := 145) 152 dX12_judge_145 (by decide) ?_
      exact rhF.zret (pc := 152) dX12_judge_152 rfl rfl rfl
    · refine rhF.aload_n (pc := 148) dX12_judge_148 0 rfl ?_
      refine rhF.ck (fun h24 => ?_)
      refine rhF.callV (pc := 149) (ci := 12) (embc := rhe0I _ _) [] dX12_judge_149 ml_X12_478 mv_X12_worthOfRow ⟨_, rfl, rfl⟩ h24 (c_X12_worthOfRow _ _ _ _) (by decide) (by decide) rfl (Nat.le_of_ble_eq_true rfl) (fun r25 _ => ?_)
      exact rhF.zret (pc := 152) dX12_judge_152 rfl rfl rfl
set_option maxHeartbeats 4000000 in
set_option maxRecDepth 100000 in
theorem b_X12_judge {E : rhE} {Γ : rhG} : ∀ (M : rhM) (v0 : Nat) (v1 : Int32), rhF E 9 7 yX12_judge cX12_judge (some .int) Γ (rhe1I Γ) (f_X12_judge Γ M v0 v1) 0 [(0, rhR v0), (1, rhI v1)] [] Γ M := by
  intro M v0 v1
  rw [f_X12_judge]
  refine rhF.iload_n (pc := 0) dX12_judge_0 1 rfl ?_
  refine rhF.iconst (pc := 1) (v := 0) dX12_judge_1 (by decide) ?_
  refine rhF.iconst (pc := 2) (v := 2) dX12_judge_2 (by decide) ?_
  refine rhF.callS (pc := 3) (embc := rhe0I _ _) [rhI _, rhI _, rhI _] dX12_judge_3 ml_X12_415 ms_X12_isIn (c_X12_isIn _ _ _ _ _ _) (by decide) (by decide) rfl (Nat.le_of_ble_eq_true rfl) (fun r1 _ => ?_)
  refine rhF.if_ne (pc := 6) 13 dX12_judge_6 (by decide) (fun h2 => ?_) (fun h2 => ?_)
  · refine rhF.ldcw (pc := 9) dX12_judge_9 k_X12_470 ?_
    exact rhF.zret (pc := 12) dX12_judge_12 rfl rfl rfl
  · refine rhF.aload_n (pc := 13) dX12_judge_13 0 rfl ?_
    refine rhF.ck (fun h3 => ?_)
    refine rhF.callV (pc := 14) (ci := 12) (embc := rhe1U _) [] dX12_judge_14 ml_X12_467 mv_X12_layNow ⟨_, rfl, rfl⟩ h3 (c_X12_layNow _ _ _ _) (by decide) (by decide) rfl (Nat.le_of_ble_eq_true rfl) (fun r4 _ => ?_)
    refine rhF.iconst (pc := 17) (v := 0) dX12_judge_17 (by decide) ?_
    refine rhF.istore_n (pc := 18) (L' := [(2, rhI _), (0, rhR _), (1, rhI _)]) dX12_judge_18 (by decide) rfl ?_
    refine rhF.iconst (pc := 19) (v := 0) dX12_judge_19 (by decide) ?_
    refine rhF.istore_n (pc := 20) (L' := [(3, rhI _), (2, rhI _), (0, rhR _), (1, rhI _)]) dX12_judge_20 (by decide) rfl ?_
    refine rhF.sub [2, 3, 1, 0] rfl ?_
    exact (b_X12_judge_21 (b_X12_judge_78) (b_X12_judge_131) rhFU) _ _ _ _ _
theorem c_X12_judge (E : rhE) (Γ : rhG) (M : rhM) (v0 : Nat) (v1 : Int32) : ∀ a, f_X12_judge Γ M v0 v1 = some a → rhC E 9 yX12_judge cX12_judge 7 (some .int) [rhR v0, rhI v1] Γ M ((rhe1I Γ) a) := rhF.met (by decide +kernel) (Nat.le_of_ble_eq_true rfl) (b_X12_judge M v0 v1)
def f_X12_later (Γ : rhG) (M : rhM) (v0 : Nat) (v1 : Int32) : Option (Int32 × rhM) :=
  (f_X12_isIn Γ M v1 (0 : Int32) (1000 : Int32)).bind fun r1 =>
  if r1 = 0 then
    (some (((-1), M)))
  else
    rhck (Γ.2.2.1 v0 = 13) <|
    if 100000 < ((M.1 v0 83) + v1) then
      (some (((-1), M)))
    else
      let M5 := rhsi M v0 83 ((M.1 v0 83) + v1)
      some ((M5.1 v0 83, M5))
set_option maxHeartbeats 4000000 in
set_option maxRecDepth 100000 in
theorem b_X12_later {E : rhE} {Γ : rhG} : ∀ (M : rhM) (v0 : Nat) (v1 : Int32), rhF E 5 2 yX12_later cX12_later (some .int) Γ (rhe1I Γ) (f_X12_later Γ M v0 v1) 0 [(0, rhR v0), (1, rhI v1)] [] Γ M := by
  intro M v0 v1
  rw [f_X12_later]
  refine rhF.iload_n (pc := 0) dX12_later_0 1 rfl ?_
  refine rhF.iconst (pc := 1) (v := 0) dX12_later_1 (by decide) ?_
  refine rhF.sipush (pc := 2) (v := 1000) dX12_later_2 (by decide) ?_
  refine rhF.callS (pc := 5) (embc := rhe0I _ _) [rhI _, rhI _, rhI _] dX12_later_5 ml_X12_415 ms_X12_isIn (c_X12_isIn _ _ _ _ _ _) (by decide) (by decide) rfl (Nat.le_of_ble_eq_true rfl) (fun r1 _ => ?_)
  refine rhF.if_eq (pc := 8) 23 dX12_later_8 (by decide) (fun h2 => ?_) (fun h2 => ?_)
  · refine rhF.iconst (pc := 23) (v := (-1)) dX12_later_23 (by decide) ?_
    exact rhF.zret (pc := 24) dX12_later_24 rfl rfl rfl
  · refine rhF.aload_n (pc := 11) dX12_later_11 0 rfl ?_
    refine rhF.ck (fun h3 => ?_)
    refine rhF.get (pc := 12) (rhI _) dX12_later_12 fl_X12_555 h3 rfl ?_
    refine rhF.iload_n (pc := 15) dX12_later_15 1 rfl ?_
    refine rhF.iadd (pc := 16) dX12_later_16 ?_
    refine rhF.ldcw (pc := 17) dX12_later_17 k_X12_558 ?_
    refine rhF.icmp_le (pc := 20) 25 dX12_later_20 (by decide) (fun h4 => ?_) (fun h4 => ?_)
    · refine rhF.iconst (pc := 23) (v := (-1)) dX12_later_23 (by decide) ?_
      exact rhF.zret (pc := 24) dX12_later_24 rfl rfl rfl
    · refine rhF.aload_n (pc := 25) dX12_later_25 0 rfl ?_
      refine rhF.dupr (pc := 26) dX12_later_26 ?_
      refine rhF.get (pc := 27) (rhI _) dX12_later_27 fl_X12_555 h3 rfl ?_
      refine rhF.iload_n (pc := 30) dX12_later_30 1 rfl ?_
      refine rhF.iadd (pc := 31) dX12_later_31 ?_
      refine rhF.puti (pc := 32) dX12_later_32 fl_X12_555 h3 (fun q hq => by cases hq; exact Or.inl rfl) ⟨rfl, rfl⟩ (fun _ => rfl) ?_
      refine rhF.aload_n (pc := 35) dX12_later_35 0 rfl ?_
      refine rhF.get (pc := 36) (rhI _) dX12_later_36 fl_X12_555 h3 rfl ?_
      exact rhF.zret (pc := 39) dX12_later_39 rfl rfl rfl
theorem c_X12_later (E : rhE) (Γ : rhG) (M : rhM) (v0 : Nat) (v1 : Int32) : ∀ a, f_X12_later Γ M v0 v1 = some a → rhC E 5 yX12_later cX12_later 2 (some .int) [rhR v0, rhI v1] Γ M ((rhe1I Γ) a) := rhF.met (by decide +kernel) (Nat.le_of_ble_eq_true rfl) (b_X12_later M v0 v1)
