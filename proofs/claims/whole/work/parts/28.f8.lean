def f_X12_sight (Γ : rhG) (M : rhM) (v0 : Nat) (v1 : Int32) (v2 : Int32) (v3 : Int32) (v4 : Int32) : Option (Int32 × rhM) :=
  (f_X12_isIn Γ M v1 (0 : Int32) (3 : Int32)).bind fun r1 =>
  if r1 = 0 then
    (some (((-1), M)))
  else
    rhck (Γ.2.2.1 v0 = 13) <|
    (f_X12_isHouse Γ M v0 v2).bind fun r4 =>
    if r4 = 0 then
      (some (((-1), M)))
    else
      (f_X12_isRail Γ M v0 v3).bind fun r6 =>
      if r6 = 0 then
        (some (((-1), M)))
      else
        if (M.1 v0 82) = 20 then
          (some (((-1), M)))
        else
          rhck (Γ.2.2.1 (M.2.2 v0 72) = 15) <|
          rhck (0 ≤ (M.1 v0 82).toInt ∧ (M.1 v0 82).toInt < (Γ.2.2.2 (M.2.2 v0 72) : Nat)) <|
          let M11 := rhsi M (M.2.2 v0 72) (M.1 v0 82 : Int32).toNatClampNeg v1
          rhck (Γ.2.2.1 (M.2.2 v0 73) = 15) <|
          rhck (0 ≤ (M11.1 v0 82).toInt ∧ (M11.1 v0 82).toInt < (Γ.2.2.2 (M.2.2 v0 73) : Nat)) <|
          let M14 := rhsi M11 (M.2.2 v0 73) (M11.1 v0 82 : Int32).toNatClampNeg v2
          rhck (Γ.2.2.1 (M.2.2 v0 74) = 15) <|
          rhck (0 ≤ (M14.1 v0 82).toInt ∧ (M14.1 v0 82).toInt < (Γ.2.2.2 (M.2.2 v0 74) : Nat)) <|
          let M17 := rhsi M14 (M.2.2 v0 74) (M14.1 v0 82 : Int32).toNatClampNeg v3
          rhck (Γ.2.2.1 (M.2.2 v0 81) = 17) <|
          rhck (0 ≤ (M17.1 v0 82).toInt ∧ (M17.1 v0 82).toInt < (Γ.2.2.2 (M.2.2 v0 81) : Nat)) <|
          let M20 := rhsi M17 (M.2.2 v0 81) (M17.1 v0 82 : Int32).toNatClampNeg (vp_nar .boolean v4)
          rhck (Γ.2.2.1 (M.2.2 v0 75) = 15) <|
          rhck (0 ≤ (M20.1 v0 82).toInt ∧ (M20.1 v0 82).toInt < (Γ.2.2.2 (M.2.2 v0 75) : Nat)) <|
          let M23 := rhsi M20 (M.2.2 v0 75) (M20.1 v0 82 : Int32).toNatClampNeg (M20.1 v0 83)
          rhck (Γ.2.2.1 (M.2.2 v0 76) = 15) <|
          rhck (0 ≤ (M23.1 v0 82).toInt ∧ (M23.1 v0 82).toInt < (Γ.2.2.2 (M.2.2 v0 76) : Nat)) <|
          let M26 := rhsi M23 (M.2.2 v0 76) (M23.1 v0 82 : Int32).toNatClampNeg ((-1))
          let M27 := rhsi M26 v0 82 ((M26.1 v0 82) + 1)
          some (((M27.1 v0 82) - 1, M27))
set_option maxHeartbeats 4000000 in
set_option maxRecDepth 100000 in
theorem b_X12_sight {E : rhE} {Γ : rhG} : ∀ (M : rhM) (v0 : Nat) (v1 : Int32) (v2 : Int32) (v3 : Int32) (v4 : Int32), rhF E 6 5 yX12_sight cX12_sight (some .int) Γ (rhe1I Γ) (f_X12_sight Γ M v0 v1 v2 v3 v4) 0 [(0, rhR v0), (1, rhI v1), (2, rhI v2), (3, rhI v3), (4, rhI v4)] [] Γ M := by
  intro M v0 v1 v2 v3 v4
  rw [f_X12_sight]
  refine rhF.iload_n (pc := 0) dX12_sight_0 1 rfl ?_
  refine rhF.iconst (pc := 1) (v := 0) dX12_sight_1 (by decide) ?_
  refine rhF.iconst (pc := 2) (v := 3) dX12_sight_2 (by decide) ?_
  refine rhF.callS (pc := 3) (embc := rhe0I _ _) [rhI _, rhI _, rhI _] dX12_sight_3 ml_X12_415 ms_X12_isIn (c_X12_isIn _ _ _ _ _ _) (by decide) (by decide) rfl (Nat.le_of_ble_eq_true rfl) (fun r1 _ => ?_)
  refine rhF.if_eq (pc := 6) 34 dX12_sight_6 (by decide) (fun h2 => ?_) (fun h2 => ?_)
  · refine rhF.iconst (pc := 34) (v := (-1)) dX12_sight_34 (by decide) ?_
    exact rhF.zret (pc := 35) dX12_sight_35 rfl rfl rfl
  · refine rhF.aload_n (pc := 9) dX12_sight_9 0 rfl ?_
    refine rhF.iload_n (pc := 10) dX12_sight_10 2 rfl ?_
    refine rhF.ck (fun h3 => ?_)
    refine rhF.callV (pc := 11) (ci := 12) (embc := rhe0I _ _) [rhI _] dX12_sight_11 ml_X12_464 mv_X12_isHouse ⟨_, rfl, rfl⟩ h3 (c_X12_isHouse _ _ _ _ _) (by decide) (by decide) rfl (Nat.le_of_ble_eq_true rfl) (fun r4 _ => ?_)
    refine rhF.if_eq (pc := 14) 34 dX12_sight_14 (by decide) (fun h5 => ?_) (fun h5 => ?_)
    · refine rhF.iconst (pc := 34) (v := (-1)) dX12_sight_34 (by decide) ?_
      exact rhF.zret (pc := 35) dX12_sight_35 rfl rfl rfl
    · refine rhF.aload_n (pc := 17) dX12_sight_17 0 rfl ?_
      refine rhF.iload_n (pc := 18) dX12_sight_18 3 rfl ?_
      refine rhF.callV (pc := 19) (ci := 12) (embc := rhe0I _ _) [rhI _] dX12_sight_19 ml_X12_428 mv_X12_isRail ⟨_, rfl, rfl⟩ h3 (c_X12_isRail _ _ _ _ _) (by decide) (by decide) rfl (Nat.le_of_ble_eq_true rfl) (fun r6 _ => ?_)
      refine rhF.if_eq (pc := 22) 34 dX12_sight_22 (by decide) (fun h7 => ?_) (fun h7 => ?_)
      · refine rhF.iconst (pc := 34) (v := (-1)) dX12_sight_34 (by decide) ?_
        exact rhF.zret (pc := 35) dX12_sight_35 rfl rfl rfl
      · refine rhF.aload_n (pc := 25) dX12_sight_25 0 rfl ?_
        refine rhF.get (pc := 26) (rhI _) dX12_sight_26 fl_X12_333 h3 rfl ?_
        refine rhF.bipush (pc := 29) (v := 20) dX12_sight_29 (by decide) ?_
        refine rhF.icmp_ne (pc := 31) 36 dX12_sight_31 (by decide) (fun h8 => ?_) (fun h8 => ?_)
        · refine rhF.iconst (pc := 34) (v := (-1)) dX12_sight_34 (by decide) ?_
          exact rhF.zret (pc := 35) dX12_sight_35 rfl rfl rfl
        · refine rhF.aload_n (pc := 36) dX12_sight_36 0 rfl ?_
          refine rhF.get (pc := 37) (rhR _) dX12_sight_37 fl_X12_160 h3 rfl ?_
          refine rhF.aload_n (pc := 40) dX12_sight_40 0 rfl ?_
          refine rhF.get (pc := 41) (rhI _) dX12_sight_41 fl_X12_333 h3 rfl ?_
          refine rhF.iload_n (pc := 44) dX12_sight_44 1 rfl ?_
          refine rhF.ck (fun h9 => ?_)
          refine rhF.ck (fun h10 => ?_)
          refine rhF.iast (pc := 45) dX12_sight_45 h9 h10 ?_
          refine rhF.aload_n (pc := 46) dX12_sight_46 0 rfl ?_
          refine rhF.get (pc := 47) (rhR _) dX12_sight_47 fl_X12_163 h3 rfl ?_
          refine rhF.aload_n (pc := 50) dX12_sight_50 0 rfl ?_
          refine rhF.get (pc := 51) (rhI _) dX12_sight_51 fl_X12_333 h3 rfl ?_
          refine rhF.iload_n (pc := 54) dX12_sight_54 2 rfl ?_
          refine rhF.ck (fun h12 => ?_)
          refine rhF.ck (fun h13 => ?_)
          refine rhF.iast (pc := 55) dX12_sight_55 h12 h13 ?_
          refine rhF.aload_n (pc := 56) dX12_sight_56 0 rfl ?_
          refine rhF.get (pc := 57) (rhR _) dX12_sight_57 fl_X12_166 h3 rfl ?_
          refine rhF.aload_n (pc := 60) dX12_sight_60 0 rfl ?_
          refine rhF.get (pc := 61) (rhI _) dX12_sight_61 fl_X12_333 h3 rfl ?_
          refine rhF.iload_n (pc := 64) dX12_sight_64 3 rfl ?_
          refine rhF.ck (fun h15 => ?_)
          refine rhF.ck (fun h16 => ?_)
          refine rhF.iast (pc := 65) dX12_sight_65 h15 h16 ?_
          refine rhF.aload_n (pc := 66) dX12_sight_66 0 rfl ?_
          refine rhF.get (pc := 67) (rhR _) dX12_sight_67 fl_X12_187 h3 rfl ?_
          refine rhF.aload_n (pc := 70) dX12_sight_70 0 rfl ?_
          refine rhF.get (pc := 71) (rhI _) dX12_sight_71 fl_X12_333 h3 rfl ?_
          refine rhF.iload (pc := 74) dX12_sight_74 4 rfl ?_
          refine rhF.ck (fun h18 => ?_)
          refine rhF.ck (fun h19 => ?_)
          refine rhF.zast (pc := 76) dX12_sight_76 h18 h19 ?_
          refine rhF.aload_n (pc := 77) dX12_sight_77 0 rfl ?_
          refine rhF.get (pc := 78) (rhR _) dX12_sight_78 fl_X12_169 h3 rfl ?_
          refine rhF.aload_n (pc := 81) dX12_sight_81 0 rfl ?_
          refine rhF.get (pc := 82) (rhI _) dX12_sight_82 fl_X12_333 h3 rfl ?_
          refine rhF.aload_n (pc := 85) dX12_sight_85 0 rfl ?_
          refine rhF.get (pc := 86) (rhI _) dX12_sight_86 fl_X12_555 h3 rfl ?_
          refine rhF.ck (fun h21 => ?_)
          refine rhF.ck (fun h22 => ?_)
          refine rhF.iast (pc := 89) dX12_sight_89 h21 h22 ?_
          refine rhF.aload_n (pc := 90) dX12_sight_90 0 rfl ?_
          refine rhF.get (pc := 91) (rhR _) dX12_sight_91 fl_X12_172 h3 rfl ?_
          refine rhF.aload_n (pc := 94) dX12_sight_94 0 rfl ?_
          refine rhF.get (pc := 95) (rhI _) dX12_sight_95 fl_X12_333 h3 rfl ?_
          refine rhF.iconst (pc := 98) (v := (-1)) dX12_sight_98 (by decide) ?_
          refine rhF.ck (fun h24 => ?_)
          refine rhF.ck (fun h25 => ?_)
          refine rhF.iast (pc := 99) dX12_sight_99 h24 h25 ?_
          refine rhF.aload_n (pc := 100) dX12_sight_100 0 rfl ?_
          refine rhF.dupr (pc := 101) dX12_sight_101 ?_
          refine rhF.get (pc := 102) (rhI _) dX12_sight_102 fl_X12_333 h3 rfl ?_
          refine rhF.iconst (pc := 105) (v := 1) dX12_sight_105 (by decide) ?_
          refine rhF.iadd (pc := 106) dX12_sight_106 ?_
          refine rhF.puti (pc := 107) dX12_sight_107 fl_X12_333 h3 (fun q hq => by cases hq; exact Or.inl rfl) ⟨rfl, rfl⟩ (fun _ => rfl) ?_
          refine rhF.aload_n (pc := 110) dX12_sight_110 0 rfl ?_
          refine rhF.get (pc := 111) (rhI _) dX12_sight_111 fl_X12_333 h3 rfl ?_
          refine rhF.iconst (pc := 114) (v := 1) dX12_sight_114 (by decide) ?_
          refine rhF.isub (pc := 115) dX12_sight_115 ?_
          exact rhF.zret (pc := 116) dX12_sight_116 rfl rfl rfl
theorem c_X12_sight (E : rhE) (Γ : rhG) (M : rhM) (v0 : Nat) (v1 : Int32) (v2 : Int32) (v3 : Int32) (v4 : Int32) : ∀ a, f_X12_sight Γ M v0 v1 v2 v3 v4 = some a → rhC E 6 yX12_sight cX12_sight 5 (some .int) [rhR v0, rhI v1, rhI v2, rhI v3, rhI v4] Γ M ((rhe1I Γ) a) := rhF.met (by decide +kernel) (Nat.le_of_ble_eq_true rfl) (b_X12_sight M v0 v1 v2 v3 v4)
def f_X12_spare_101 (k36 : rhM → Nat → Int32 → Int32 → Int32 → Int32 → Int32 → Option (Int32 × rhM)) (Γ : rhG) (M : rhM) (v0 : Nat) (v1 : Int32) (v2 : Int32) (v3 : Int32) (v4 : Int32) (v5 : Int32) : Option (Int32 × rhM) :=
  let x16 : Int32 := v5 + 1
  k36 M v0 v1 v2 v3 v4 x16
def f_X12_spare_89 (k101 : rhM → Nat → Int32 → Int32 → Int32 → Int32 → Int32 → Option (Int32 × rhM)) (Γ : rhG) (M : rhM) (v0 : Nat) (v1 : Int32) (v2 : Int32) (v5 : Int32) (v6 : Int32) : Option (Int32 × rhM) :=
  rhck (Γ.2.2.1 v0 = 13) <|
  rhck (Γ.2.2.1 (M.2.2 v0 56) = 15) <|
  rhck (0 ≤ (v6).toInt ∧ (v6).toInt < (Γ.2.2.2 (M.2.2 v0 56) : Nat)) <|
  let x21 := M.1 (M.2.2 v0 56) v6.toNatClampNeg
  k101 M v0 v1 v2 v5 x21 v5
def f_X12_spare_36 (k107 : rhM → Nat → Int32 → Int32 → Int32 → Option (Int32 × rhM)) (Γ : rhG) : Nat → rhM → Nat → Int32 → Int32 → Int32 → Int32 → Int32 → Option (Int32 × rhM)
  | 0, _, _, _, _, _, _, _ => none
  | n + 1, M, v0, v1, v2, v3, v4, v5 =>
    rhck (Γ.2.2.1 v0 = 13) <|
    (f_X12_railMany Γ M v0).bind fun r9 =>
    if v5 < r9 then
      (let M11 := rhsi M v0 44 v5
      let M12 := rhsi M11 v0 45 v1
      (f_X12_search Γ M12 v0 (0 : Int32) (246960 : Int32)).bind fun r13 =>
      let x14 := r13.1
      if x14 < 0 then
        (f_X12_spare_101 (f_X12_spare_36 k107 Γ n) Γ r13.2 v0 v1 v2 v3 v4 v5)
      else
        if v3 < 0 then
          (f_X12_spare_89 (f_X12_spare_101 (f_X12_spare_36 k107 Γ n) Γ) Γ r13.2 v0 v1 v2 v5 x14)
        else
          rhck (Γ.2.2.1 (r13.2.2.2 v0 56) = 15) <|
          rhck (0 ≤ (x14).toInt ∧ (x14).toInt < (Γ.2.2.2 (r13.2.2.2 v0 56) : Nat)) <|
          if (r13.2.1 (r13.2.2.2 v0 56) x14.toNatClampNeg) < v4 then
            (f_X12_spare_89 (f_X12_spare_101 (f_X12_spare_36 k107 Γ n) Γ) Γ r13.2 v0 v1 v2 v5 x14)
          else
            f_X12_spare_101 (f_X12_spare_36 k107 Γ n) Γ r13.2 v0 v1 v2 v3 v4 v5)
    else
      k107 M v0 v2 v3 v4
def f_X12_spare_107 (Γ : rhG) (M : rhM) (v0 : Nat) (v2 : Int32) (v3 : Int32) (v4 : Int32) : Option (Int32 × rhM) :=
  rhck (Γ.2.2.1 v0 = 13) <|
  let M26 := rhsi M v0 44 ((-1))
  if v3 < 0 then
    (some ((v3, M26)))
  else
    if v2 = 0 then
      (some ((v3, M26)))
    else
      some ((v4, M26))
def f_X12_spare (Γ : rhG) (M : rhM) (v0 : Nat) (v1 : Int32) (v2 : Int32) : Option (Int32 × rhM) :=
  (f_X12_isIn Γ M v1 (1 : Int32) (99 : Int32)).bind fun r1 =>
  if r1 = 0 then
    (some (((-1), M)))
  else
    (f_X12_isIn Γ M v2 (0 : Int32) (1 : Int32)).bind fun r3 =>
    if r3 = 0 then
      (some (((-1), M)))
    else
      rhck (Γ.2.2.1 v0 = 13) <|
      (f_X12_isMany Γ M v0).bind fun r6 =>
      if r6 = 0 then
        (f_X12_spare_36 (f_X12_spare_107 Γ) Γ rhFU M v0 v1 v2 ((-1)) 0 0)
      else
        some (((-1), M))
set_option maxHeartbeats 4000000 in
set_option maxRecDepth 100000 in
theorem b_X12_spare_101 {E : rhE} {Γ : rhG} {k36 : rhM → Nat → Int32 → Int32 → Int32 → Int32 → Int32 → Option (Int32 × rhM)} (hk36 : ∀ (M : rhM) (v0 : Nat) (v1 : Int32) (v2 : Int32) (v3 : Int32) (v4 : Int32) (v5 : Int32), rhF E 11 7 yX12_spare cX12_spare (some .int) Γ (rhe1I Γ) (k36 M v0 v1 v2 v3 v4 v5) 36 [(0, rhR v0), (1, rhI v1), (2, rhI v2), (3, rhI v3), (4, rhI v4), (5, rhI v5)] [] Γ M) : ∀ (M : rhM) (v0 : Nat) (v1 : Int32) (v2 : Int32) (v3 : Int32) (v4 : Int32) (v5 : Int32), rhF E 11 7 yX12_spare cX12_spare (some .int) Γ (rhe1I Γ) (f_X12_spare_101 k36 Γ M v0 v1 v2 v3 v4 v5) 101 [(0, rhR v0), (1, rhI v1), (2, rhI v2), (3, rhI v3), (4, rhI v4), (5, rhI v5)] [] Γ M := by
  intro M v0 v1 v2 v3 v4 v5
  rw [f_X12_spare_101]
  refine rhF.iinc (pc := 101) (L' := [(5, rhI _), (0, rhR _), (1, rhI _), (2, rhI _), (3, rhI _), (4, rhI _)]) dX12_spare_101 5 rfl rfl (by decide) rfl ?_
  refine rhF.goto (pc := 104) 36 dX12_spare_104 (by decide) ?_
  refine rhF.sub [1, 2, 3, 4, 5, 0] rfl ?_
  exact hk36 _ _ _ _ _ _ _
set_option maxHeartbeats 4000000 in
set_option maxRecDepth 100000 in
theorem b_X12_spare_89 {E : rhE} {Γ : rhG} {k101 : rhM → Nat → Int32 → Int32 → Int32 → Int32 → Int32 → Option (Int32 × rhM)} (hk101 : ∀ (M : rhM) (v0 : Nat) (v1 : Int32) (v2 : Int32) (v3 : Int32) (v4 : Int32) (v5 : Int32), rhF E 11 7 yX12_spare cX12_spare (some .int) Γ (rhe1I Γ) (k101 M v0 v1 v2 v3 v4 v5) 101 [(0, rhR v0), (1, rhI v1), (2, rhI v2), (3, rhI v3), (4, rhI v4), (5, rhI v5)] [] Γ M) : ∀ (M : rhM) (v0 : Nat) (v1 : Int32) (v2 : Int32) (v5 : Int32) (v6 : Int32), rhF E 11 7 yX12_spare cX12_spare (some .int) Γ (rhe1I Γ) (f_X12_spare_89 k101 Γ M v0 v1 v2 v5 v6) 89 [(0, rhR v0), (1, rhI v1), (2, rhI v2), (5, rhI v5), (6, rhI v6)] [] Γ M := by
  intro M v0 v1 v2 v5 v6
  rw [f_X12_spare_89]
  refine rhF.iload (pc := 89) dX12_spare_89 3 rfl ?_
  refine rhF.istore_n (pc := 91) (L' := [(3, rhI _), (0, rhR _), (1, rhI _), (2, rhI _), (5, rhI _), (6, rhI _)]) dX12_spare_91 (by decide) rfl ?_
  refine rhF.aload_n (pc := 92) dX12_spare_92 1 rfl ?_
  refine rhF.ck (fun h18 => ?_)
  refine rhF.get (pc := 93) (rhR _) dX12_spare_93 fl_X12_129 h18 rfl ?_
  refine rhF.iload (pc := 96) dX12_spare_96 5 rfl ?_
  refine rhF.ck (fun h19 => ?_)
  refine rhF.ck (fun h20 => ?_)
  refine rhF.iald (pc := 98) dX12_spare_98 h19 h20 ?_
  refine rhF.istore (pc := 99) (L' := [(4, rhI _), (3, rhI _), (0, rhR _), (1, rhI _), (2, rhI _), (5, rhI _), (6, rhI _)]) dX12_spare_99 (by decide) rfl ?_
  refine rhF.sub [2, 3, 4, 1, 0, 5] rfl ?_
  exact hk101 _ _ _ _ _ _ _
set_option maxHeartbeats 4000000 in
set_option maxRecDepth 100000 in
theorem b_X12_spare_36 {E : rhE} {Γ : rhG} {k107 : rhM → Nat → Int32 → Int32 → Int32 → Option (Int32 × rhM)} (hk107 : ∀ (M : rhM) (v0 : Nat) (v2 : Int32) (v3 : Int32) (v4 : Int32), rhF E 11 7 yX12_spare cX12_spare (some .int) Γ (rhe1I Γ) (k107 M v0 v2 v3 v4) 107 [(0, rhR v0), (2, rhI v2), (3, rhI v3), (4, rhI v4)] [] Γ M) : ∀ (n : Nat) (M : rhM) (v0 : Nat) (v1 : Int32) (v2 : Int32) (v3 : Int32) (v4 : Int32) (v5 : Int32), rhF E 11 7 yX12_spare cX12_spare (some .int) Γ (rhe1I Γ) (f_X12_spare_36 k107 Γ n M v0 v1 v2 v3 v4 v5) 36 [(0, rhR v0), (1, rhI v1), (2, rhI v2), (3, rhI v3), (4, rhI v4), (5, rhI v5)] [] Γ M := by
  intro n
  induction n with
  | zero => intro M v0 v1 v2 v3 v4 v5; rw [f_X12_spare_36]; exact rhF.nope
  | succ n ih =>
    intro M v0 v1 v2 v3 v4 v5
    rw [f_X12_spare_36]
    refine rhF.iload (pc := 36) dX12_spare_36 5 rfl ?_
    refine rhF.aload_n (pc := 38) dX12_spare_38 0 rfl ?_
    refine rhF.ck (fun h8 => ?_)
    refine rhF.callV (pc := 39) (ci := 12) (embc := rhe0I _ _) [] dX12_spare_39 ml_X12_412 mv_X12_railMany ⟨_, rfl, rfl⟩ h8 (c_X12_railMany _ _ _ _) (by decide) (by decide) rfl (Nat.le_of_ble_eq_true rfl) (fun r9 _ => ?_)
    refine rhF.icmp_ge (pc := 42) 107 dX12_spare_42 (by decide) (fun h10 => ?_) (fun h10 => ?_)
    · refine rhF.aload_n (pc := 45) dX12_spare_45 0 rfl ?_
      refine rhF.iload (pc := 46) dX12_spare_46 5 rfl ?_
      refine rhF.puti (pc := 48) dX12_spare_48 fl_X12_107 h8 (fun q hq => by cases hq; exact Or.inl rfl) ⟨rfl, rfl⟩ (fun _ => rfl) ?_
      refine rhF.aload_n (pc := 51) dX12_spare_51 0 rfl ?_
      refine rhF.iload_n (pc := 52) dX12_spare_52 1 rfl ?_
      refine rhF.puti (pc := 53) dX12_spare_53 fl_X12_422 h8 (fun q hq => by cases hq; exact Or.inl rfl) ⟨rfl, rfl⟩ (fun _ => rfl) ?_
      refine rhF.aload_n (pc := 56) dX12_spare_56 0 rfl ?_
      refine rhF.iconst (pc := 57) (v := 0) dX12_spare_57 (by decide) ?_
      refine rhF.ldc (pc := 58) dX12_spare_58 k_X12_122 ?_
      refine rhF.callV (pc := 60) (ci := 12) (embc := rhe1I _) [rhI _, rhI _] dX12_spare_60 ml_X12_518 mv_X12_search ⟨_, rfl, rfl⟩ h8 (c_X12_search _ _ _ _ _ _) (by decide) (by decide) rfl (Nat.le_of_ble_eq_true rfl) (fun r13 _ => ?_)
      refine rhF.istore (pc := 63) (L' := [(6, rhI _), (0, rhR _), (1, rhI _), (2, rhI _), (3, rhI _), (4, rhI _), (5, rhI _)]) dX12_spare_63 (by decide) rfl ?_
      refine rhF.iload (pc := 65) dX12_spare_65 0 rfl ?_
      refine rhF.if_lt (pc := 67) 101 dX12_spare_67 (by decide) (fun h15 => ?_) (fun h15 => ?_)
      · refine rhF.sub [1, 2, 3, 4, 5, 6] rfl ?_
        exact (b_X12_spare_101 ih) _ _ _ _ _ _ _
      · refine rhF.iload_n (pc := 70) dX12_spare_70 4 rfl ?_
        refine rhF.if_lt (pc := 71) 89 dX12_spare_71 (by decide) (fun h17 => ?_) (fun h17 => ?_)
        · refine rhF.sub [1, 2, 3, 6, 0] rfl ?_
          exact (b_X12_spare_89 (b_X12_spare_101 ih)) _ _ _ _ _ _
        · refine rhF.aload_n (pc := 74) dX12_spare_74 1 rfl ?_
          refine rhF.get (pc := 75) (rhR _) dX12_spare_75 fl_X12_129 h8 rfl ?_
          refine rhF.iload (pc := 78) dX12_spare_78 0 rfl ?_
          refine rhF.ck (fun h22 => ?_)
          refine rhF.ck (fun h23 => ?_)
          refine rhF.iald (pc := 80) dX12_spare_80 h22 h23 ?_
          refine rhF.iload (pc := 81) dX12_spare_81 5 rfl ?_
          refine rhF.icmp_lt (pc := 83) 89 dX12_spare_83 (by decide) (fun h24 => ?_) (fun h24 => ?_)
          · refine rhF.sub [1, 2, 3, 6, 0] rfl ?_
            exact (b_X12_spare_89 (b_X12_spare_101 ih)) _ _ _ _ _ _
          · refine rhF.goto (pc := 86) 101 dX12_spare_86 (by decide) ?_
            refine rhF.sub [1, 2, 3, 4, 5, 6] rfl ?_
            exact (b_X12_spare_101 ih) _ _ _ _ _ _ _
    · refine rhF.sub [0, 2, 3, 4] rfl ?_
      exact hk107 _ _ _ _ _
set_option maxHeartbeats 4000000 in
set_option maxRecDepth 100000 in
theorem b_X12_spare_107 {E : rhE} {Γ : rhG} : ∀ (M : rhM) (v0 : Nat) (v2 : Int32) (v3 : Int32) (v4 : Int32), rhF E 11 7 yX12_spare cX12_spare (some .int) Γ (rhe1I Γ) (f_X12_spare_107 Γ M v0 v2 v3 v4) 107 [(0, rhR v0), (2, rhI v2), (3, rhI v3), (4, rhI v4)] [] Γ M := by
  intro M v0 v2 v3 v4
  rw [f_X12_spare_107]
  refine rhF.aload_n (pc := 107) dX12_spare_107 0 rfl ?_
  refine rhF.iconst (pc := 108) (v := (-1)) dX12_spare_108 (by decide) ?_
  refine rhF.ck (fun h25 => ?_)
  refine rhF.puti (pc := 109) dX12_spare_109 fl_X12_107 h25 (fun q hq => by cases hq; exact Or.inl rfl) ⟨rfl, rfl⟩ (fun _ => rfl) ?_
  refine rhF.iload_n (pc := 112) dX12_spare_112 2 rfl ?_
  refine rhF.if_lt (pc := 113) 120 dX12_spare_113 (by decide) (fun h27 => ?_) (fun h27 => ?_)
  · refine rhF.iload_n (pc := 120) dX12_spare_120 2 rfl ?_
    refine rhF.goto (pc := 121) 126 dX12_spare_121 (by decide) ?_
    exact rhF.zret (pc := 126) dX12_spare_126 rfl rfl rfl
  · refine rhF.iload_n (pc := 116) dX12_spare_116 1 rfl ?_
    refine rhF.if_ne (pc := 117) 124 dX12_spare_117 (by decide) (fun h28 => ?_) (fun h28 => ?_)
    · refine rhF.iload_n (pc := 120) dX12_spare_120 2 rfl ?_
      refine rhF.goto (pc := 121) 126 dX12_spare_121 (by decide) ?_
      exact rhF.zret (pc := 126) dX12_spare_126 rfl rfl rfl
    · refine rhF.iload (pc := 124) dX12_spare_124 3 rfl ?_
      exact rhF.zret (pc := 126) dX12_spare_126 rfl rfl rfl
set_option maxHeartbeats 4000000 in
set_option maxRecDepth 100000 in
theorem b_X12_spare {E : rhE} {Γ : rhG} : ∀ (M : rhM) (v0 : Nat) (v1 : Int32) (v2 : Int32), rhF E 11 7 yX12_spare cX12_spare (some .int) Γ (rhe1I Γ) (f_X12_spare Γ M v0 v1 v2) 0 [(0, rhR v0), (1, rhI v1), (2, rhI v2)] [] Γ M := by
  intro M v0 v1 v2
  rw [f_X12_spare]
  refine rhF.iload_n (pc := 0) dX12_spare_0 1 rfl ?_
  refine rhF.iconst (pc := 1) (v := 1) dX12_spare_1 (by decide) ?_
  refine rhF.bipush (pc := 2) (v := 99) dX12_spare_2 (by decide) ?_
  refine rhF.callS (pc := 4) (embc := rhe0I _ _) [rhI _, rhI _, rhI _] dX12_spare_4 ml_X12_415 ms_X12_isIn (c_X12_isIn _ _ _ _ _ _) (by decide) (by decide) rfl (Nat.le_of_ble_eq_true rfl) (fun r1 _ => ?_)
  refine rhF.if_eq (pc := 7) 26 dX12_spare_7 (by decide) (fun h2 => ?_) (fun h2 => ?_)
  · refine rhF.iconst (pc := 26) (v := (-1)) dX12_spare_26 (by decide) ?_
    exact rhF.zret (pc := 27) dX12_spare_27 rfl rfl rfl
  · refine rhF.iload_n (pc := 10) dX12_spare_10 2 rfl ?_
    refine rhF.iconst (pc := 11) (v := 0) dX12_spare_11 (by decide) ?_
    refine rhF.iconst (pc := 12) (v := 1) dX12_spare_12 (by decide) ?_
    refine rhF.callS (pc := 13) (embc := rhe0I _ _) [rhI _, rhI _, rhI _] dX12_spare_13 ml_X12_415 ms_X12_isIn (c_X12_isIn _ _ _ _ _ _) (by decide) (by decide) rfl (Nat.le_of_ble_eq_true rfl) (fun r3 _ => ?_)
    refine rhF.if_eq (pc := 16) 26 dX12_spare_16 (by decide) (fun h4 => ?_) (fun h4 => ?_)
    · refine rhF.iconst (pc := 26) (v := (-1)) dX12_spare_26 (by decide) ?_
      exact rhF.zret (pc := 27) dX12_spare_27 rfl rfl rfl
    · refine rhF.aload_n (pc := 19) dX12_spare_19 0 rfl ?_
      refine rhF.ck (fun h5 => ?_)
      refine rhF.callV (pc := 20) (ci := 12) (embc := rhe0I _ _) [] dX12_spare_20 ml_X12_515 mv_X12_isMany ⟨_, rfl, rfl⟩ h5 (c_X12_isMany _ _ _ _) (by decide) (by decide) rfl (Nat.le_of_ble_eq_true rfl) (fun r6 _ => ?_)
      refine rhF.if_eq (pc := 23) 28 dX12_spare_23 (by decide) (fun h7 => ?_) (fun h7 => ?_)
      · refine rhF.iconst (pc := 28) (v := (-1)) dX12_spare_28 (by decide) ?_
        refine rhF.istore_n (pc := 29) (L' := [(3, rhI _), (0, rhR _), (1, rhI _), (2, rhI _)]) dX12_spare_29 (by decide) rfl ?_
        refine rhF.iconst (pc := 30) (v := 0) dX12_spare_30 (by decide) ?_
        refine rhF.istore (pc := 31) (L' := [(4, rhI _), (3, rhI _), (0, rhR _), (1, rhI _), (2, rhI _)]) dX12_spare_31 (by decide) rfl ?_
        refine rhF.iconst (pc := 33) (v := 0) dX12_spare_33 (by decide) ?_
        refine rhF.istore (pc := 34) (L' := [(5, rhI _), (4, rhI _), (3, rhI _), (0, rhR _), (1, rhI _), (2, rhI _)]) dX12_spare_34 (by decide) rfl ?_
        refine rhF.sub [3, 4, 5, 2, 1, 0] rfl ?_
        exact (b_X12_spare_36 (b_X12_spare_107) rhFU) _ _ _ _ _ _ _
      · refine rhF.iconst (pc := 26) (v := (-1)) dX12_spare_26 (by decide) ?_
        exact rhF.zret (pc := 27) dX12_spare_27 rfl rfl rfl
theorem c_X12_spare (E : rhE) (Γ : rhG) (M : rhM) (v0 : Nat) (v1 : Int32) (v2 : Int32) : ∀ a, f_X12_spare Γ M v0 v1 v2 = some a → rhC E 11 yX12_spare cX12_spare 7 (some .int) [rhR v0, rhI v1, rhI v2] Γ M ((rhe1I Γ) a) := rhF.met (by decide +kernel) (Nat.le_of_ble_eq_true rfl) (b_X12_spare M v0 v1 v2)
def f_X12_tell (Γ : rhG) (M : rhM) (v0 : Nat) (v1 : Int32) (v2 : Int32) (v3 : Int32) : Option (Int32 × rhM) :=
  rhck (Γ.2.2.1 v0 = 13) <|
  (f_X12_isRail Γ M v0 v1).bind fun r2 =>
  if r2 = 0 then
    (some (((-1), M)))
  else
    (f_X12_isRail Γ M v0 v3).bind fun r4 =>
    if r4 = 0 then
      (some (((-1), M)))
    else
      if v1 = v3 then
        (some (((-1), M)))
      else
        (f_X12_isIn Γ M v2 (1 : Int32) (8 : Int32)).bind fun r7 =>
        if r7 = 0 then
          (some (((-1), M)))
        else
          if (M.1 v0 51) = 12 then
            (some (((-1), M)))
          else
            rhck (Γ.2.2.1 (M.2.2 v0 50) = 15) <|
            rhck (0 ≤ (M.1 v0 51).toInt ∧ (M.1 v0 51).toInt < (Γ.2.2.2 (M.2.2 v0 50) : Nat)) <|
            let M12 := rhsi M (M.2.2 v0 50) (M.1 v0 51 : Int32).toNatClampNeg (((100 * v1) + (10 * v2)) + v3)
            let M13 := rhsi M12 v0 51 ((M12.1 v0 51) + 1)
            some ((M13.1 v0 51, M13))
set_option maxHeartbeats 4000000 in
set_option maxRecDepth 100000 in
theorem b_X12_tell {E : rhE} {Γ : rhG} : ∀ (M : rhM) (v0 : Nat) (v1 : Int32) (v2 : Int32) (v3 : Int32), rhF E 6 4 yX12_tell cX12_tell (some .int) Γ (rhe1I Γ) (f_X12_tell Γ M v0 v1 v2 v3) 0 [(0, rhR v0), (1, rhI v1), (2, rhI v2), (3, rhI v3)] [] Γ M := by
  intro M v0 v1 v2 v3
  rw [f_X12_tell]
  refine rhF.aload_n (pc := 0) dX12_tell_0 0 rfl ?_
  refine rhF.iload_n (pc := 1) dX12_tell_1 1 rfl ?_
  refine rhF.ck (fun h1 => ?_)
  refine rhF.callV (pc := 2) (ci := 12) (embc := rhe0I _ _) [rhI _] dX12_tell_2 ml_X12_428 mv_X12_isRail ⟨_, rfl, rfl⟩ h1 (c_X12_isRail _ _ _ _ _) (by decide) (by decide) rfl (Nat.le_of_ble_eq_true rfl) (fun r2 _ => ?_)
  refine rhF.if_eq (pc := 5) 40 dX12_tell_5 (by decide) (fun h3 => ?_) (fun h3 => ?_)
  · refine rhF.iconst (pc := 40) (v := (-1)) dX12_tell_40 (by decide) ?_
    exact rhF.zret (pc := 41) dX12_tell_41 rfl rfl rfl
  · refine rhF.aload_n (pc := 8) dX12_tell_8 0 rfl ?_
    refine rhF.iload_n (pc := 9) dX12_tell_9 3 rfl ?_
    refine rhF.callV (pc := 10) (ci := 12) (embc := rhe0I _ _) [rhI _] dX12_tell_10 ml_X12_428 mv_X12_isRail ⟨_, rfl, rfl⟩ h1 (c_X12_isRail _ _ _ _ _) (by decide) (by decide) rfl (Nat.le_of_ble_eq_true rfl) (fun r4 _ => ?_)
    refine rhF.if_eq (pc := 13) 40 dX12_tell_13 (by decide) (fun h5 => ?_) (fun h5 => ?_)
    · refine rhF.iconst (pc := 40) (v := (-1)) dX12_tell_40 (by decide) ?_
      exact rhF.zret (pc := 41) dX12_tell_41 rfl rfl rfl
    · refine rhF.iload_n (pc := 16) dX12_tell_16 1 rfl ?_
      refine rhF.iload_n (pc := 17) dX12_tell_17 3 rfl ?_
      refine rhF.icmp_eq (pc := 18) 40 dX12_tell_18 (by decide) (fun h6 => ?_) (fun h6 => ?_)
      · refine rhF.iconst (pc := 40) (v := (-1)) dX12_tell_40 (by decide) ?_
        exact rhF.zret (pc := 41) dX12_tell_41 rfl rfl rfl
      · refine rhF.iload_n (pc := 21) dX12_tell_21 2 rfl ?_
        refine rhF.iconst (pc := 22) (v := 1) dX12_tell_22 (by decide) ?_
        refine rhF.bipush (pc := 23) (v := 8) dX12_tell_23 (by decide) ?_
        refine rhF.callS (pc := 25) (embc := rhe0I _ _) [rhI _, rhI _, rhI _] dX12_tell_25 ml_X12_415 ms_X12_isIn (c_X12_isIn _ _ _ _ _ _) (by decide) (by decide) rfl (Nat.le_of_ble_eq_true rfl) (fun r7 _ => ?_)
        refine rhF.if_eq (pc := 28) 40 dX12_tell_28 (by decide) (fun h8 => ?_) (fun h8 => ?_)
        · refine rhF.iconst (pc := 40) (v := (-1)) dX12_tell_40 (by decide) ?_
          exact rhF.zret (pc := 41) dX12_tell_41 rfl rfl rfl
        · refine rhF.aload_n (pc := 31) dX12_tell_31 0 rfl ?_
          refine rhF.get (pc := 32) (rhI _) dX12_tell_32 fl_X12_336 h1 rfl ?_
          refine rhF.bipush (pc := 35) (v := 12) dX12_tell_35 (by decide) ?_
          refine rhF.icmp_ne (pc := 37) 42 dX12_tell_37 (by decide) (fun h9 => ?_) (fun h9 => ?_)
          · refine rhF.iconst (pc := 40) (v := (-1)) dX12_tell_40 (by decide) ?_
            exact rhF.zret (pc := 41) dX12_tell_41 rfl rfl rfl
          · refine rhF.aload_n (pc := 42) dX12_tell_42 0 rfl ?_
            refine rhF.get (pc := 43) (rhR _) dX12_tell_43 fl_X12_116 h1 rfl ?_
            refine rhF.aload_n (pc := 46) dX12_tell_46 0 rfl ?_
            refine rhF.get (pc := 47) (rhI _) dX12_tell_47 fl_X12_336 h1 rfl ?_
            refine rhF.bipush (pc := 50) (v := 100) dX12_tell_50 (by decide) ?_
            refine rhF.iload_n (pc := 52) dX12_tell_52 1 rfl ?_
            refine rhF.imul (pc := 53) dX12_tell_53 ?_
            refine rhF.bipush (pc := 54) (v := 10) dX12_tell_54 (by decide) ?_
            refine rhF.iload_n (pc := 56) dX12_tell_56 2 rfl ?_
            refine rhF.imul (pc := 57) dX12_tell_57 ?_
            refine rhF.iadd (pc := 58) dX12_tell_58 ?_
            refine rhF.iload_n (pc := 59) dX12_tell_59 3 rfl ?_
            refine rhF.iadd (pc := 60) dX12_tell_60 ?_
            refine rhF.ck (fun h10 => ?_)
            refine rhF.ck (fun h11 => ?_)
            refine rhF.iast (pc := 61) dX12_tell_61 h10 h11 ?_
            refine rhF.aload_n (pc := 62) dX12_tell_62 0 rfl ?_
            refine rhF.dupr (pc := 63) dX12_tell_63 ?_
            refine rhF.get (pc := 64) (rhI _) dX12_tell_64 fl_X12_336 h1 rfl ?_
            refine rhF.iconst (pc := 67) (v := 1) dX12_tell_67 (by decide) ?_
            refine rhF.iadd (pc := 68) dX12_tell_68 ?_
            refine rhF.puti (pc := 69) dX12_tell_69 fl_X12_336 h1 (fun q hq => by cases hq; exact Or.inl rfl) ⟨rfl, rfl⟩ (fun _ => rfl) ?_
            refine rhF.aload_n (pc := 72) dX12_tell_72 0 rfl ?_
            refine rhF.get (pc := 73) (rhI _) dX12_tell_73 fl_X12_336 h1 rfl ?_
            exact rhF.zret (pc := 76) dX12_tell_76 rfl rfl rfl
theorem c_X12_tell (E : rhE) (Γ : rhG) (M : rhM) (v0 : Nat) (v1 : Int32) (v2 : Int32) (v3 : Int32) : ∀ a, f_X12_tell Γ M v0 v1 v2 v3 = some a → rhC E 6 yX12_tell cX12_tell 4 (some .int) [rhR v0, rhI v1, rhI v2, rhI v3] Γ M ((rhe1I Γ) a) := rhF.met (by decide +kernel) (Nat.le_of_ble_eq_true rfl) (b_X12_tell M v0 v1 v2 v3)
def f_X12_town_20 (k46 : rhM → Nat → Option (Int32 × rhM)) (Γ : rhG) : Nat → rhM → Nat → Int32 → Option (Int32 × rhM)
  | 0, _, _, _ => none
  | n + 1, M, v0, v1 =>
    rhck (Γ.2.2.1 v0 = 13) <|
    if v1 < (M.1 v0 3) then
      (rhck (Γ.2.2.1 (M.2.2 v0 0) = 14) <|
      rhck (0 ≤ (v1).toInt ∧ (v1).toInt < (Γ.2.2.2 (M.2.2 v0 0) : Nat)) <|
      rhck (Γ.2.2.1 (M.2.2 v0 1) = 14) <|
      rhck (0 ≤ (v1).toInt ∧ (v1).toInt < (Γ.2.2.2 (M.2.2 v0 1) : Nat)) <|
      let M11 := rhsi M (M.2.2 v0 1) (v1 : Int32).toNatClampNeg (vp_nar .byte (M.1 (M.2.2 v0 0) v1.toNatClampNeg))
      let x12 : Int32 := v1 + 1
      f_X12_town_20 k46 Γ n M11 v0 x12)
    else
      k46 M v0
def f_X12_town_74 (k95 : rhM → Nat → Option (Int32 × rhM)) (Γ : rhG) : Nat → rhM → Nat → Option (Int32 × rhM)
  | 0, _, _ => none
  | n + 1, M, v0 =>
    rhck (Γ.2.2.1 v0 = 13) <|
    (f_X12_isGood Γ M v0).bind fun r20 =>
    if r20 = 0 then
      (k95 M v0)
    else
      if (M.1 v0 8) = 0 then
        (k95 M v0)
      else
        (f_X12_readLine Γ M v0).bind fun r23 =>
        f_X12_town_74 k95 Γ n r23 v0
def f_X12_town_138 (Γ : rhG) : Nat → rhM → Nat → Int32 → Option (Int32 × rhM)
  | 0, _, _, _ => none
  | n + 1, M, v0, v1 =>
    if v1 < 3 then
      (rhck (Γ.2.2.1 v0 = 13) <|
      rhck (Γ.2.2.1 (M.2.2 v0 84) = 15) <|
      rhck (0 ≤ (v1).toInt ∧ (v1).toInt < (Γ.2.2.2 (M.2.2 v0 84) : Nat)) <|
      let M37 := rhsi M (M.2.2 v0 84) (v1 : Int32).toNatClampNeg ((-1))
      let x38 : Int32 := v1 + 1
      f_X12_town_138 Γ n M37 v0 x38)
    else
      rhck (Γ.2.2.1 v0 = 13) <|
      rhck (Γ.2.2.1 (M.2.2 v0 12) = 15) <|
      rhck (0 ≤ (M.1 v0 34).toInt ∧ (M.1 v0 34).toInt < (Γ.2.2.2 (M.2.2 v0 12) : Nat)) <|
      some ((M.1 (M.2.2 v0 12) (M.1 v0 34).toNatClampNeg, M))
def f_X12_town_95 (Γ : rhG) (M : rhM) (v0 : Nat) : Option (Int32 × rhM) :=
  rhck (Γ.2.2.1 v0 = 13) <|
  (f_X12_isGood Γ M v0).bind fun r25 =>
  if r25 = 0 then
    (some (((-1), M)))
  else
    let M27 := rhsi M v0 34 (M.1 v0 35)
    (f_X12_begin Γ M27 v0).bind fun r28 =>
    let M29 := rhsi r28 v0 82 0
    let M30 := rhsi M29 v0 51 0
    let M31 := rhsi M30 v0 53 0
    let M32 := rhsi M31 v0 66 0
    f_X12_town_138 Γ rhFU M32 v0 0
def f_X12_town_46 (Γ : rhG) (M : rhM) (v0 : Nat) : Option (Int32 × rhM) :=
  rhck (Γ.2.2.1 v0 = 13) <|
  let M14 := rhsi M v0 2 0
  let M15 := rhsi M14 v0 7 0
  let M16 := rhsi M15 v0 35 (1 - (M15.1 v0 34))
  (f_X12_clearBank Γ M16 v0).bind fun r17 =>
  (f_X12_goOn Γ r17 v0).bind fun r18 =>
  f_X12_town_74 (f_X12_town_95 Γ) Γ rhFU r18 v0
def f_X12_town (Γ : rhG) (M : rhM) (v0 : Nat) : Option (Int32 × rhM) :=
  rhck (Γ.2.2.1 v0 = 13) <|
  let M2 := rhsi M v0 4 0
  let M3 := rhsi M2 v0 5 ((-1))
  let M4 := rhsi M3 v0 3 (M3.1 v0 2)
  f_X12_town_20 (f_X12_town_46 Γ) Γ rhFU M4 v0 0
set_option maxHeartbeats 4000000 in
set_option maxRecDepth 100000 in
theorem b_X12_town_20 {E : rhE} {Γ : rhG} {k46 : rhM → Nat → Option (Int32 × rhM)} (hk46 : ∀ (M : rhM) (v0 : Nat), rhF E 10 2 yX12_town cX12_town (some .int) Γ (rhe1I Γ) (k46 M v0) 46 [(0, rhR v0)] [] Γ M) : ∀ (n : Nat) (M : rhM) (v0 : Nat) (v1 : Int32), rhF E 10 2 yX12_town cX12_town (some .int) Γ (rhe1I Γ) (f_X12_town_20 k46 Γ n M v0 v1) 20 [(0, rhR v0), (1, rhI v1)] [] Γ M := by
  intro n
  induction n with
  | zero => intro M v0 v1; rw [f_X12_town_20]; exact rhF.nope
  | succ n ih =>
    intro M v0 v1
    rw [f_X12_town_20]
    refine rhF.iload_n (pc := 20) dX12_town_20 1 rfl ?_
    refine rhF.aload_n (pc := 21) dX12_town_21 0 rfl ?_
    refine rhF.ck (fun h5 => ?_)
    refine rhF.get (pc := 22) (rhI _) dX12_town_22 fl_X12_214 h5 rfl ?_
    refine rhF.icmp_ge (pc := 25) 46 dX12_town_25 (by decide) (fun h6 => ?_) (fun h6 => ?_)
    · refine rhF.aload_n (pc := 28) dX12_town_28 0 rfl ?_
      refine rhF.get (pc := 29) (rhR _) dX12_town_29 fl_X12_13 h5 rfl ?_
      refine rhF.iload_n (pc := 32) dX12_town_32 1 rfl ?_
      refine rhF.aload_n (pc := 33) dX12_town_33 0 rfl ?_
      refine rhF.get (pc := 34) (rhR _) dX12_town_34 fl_X12_7 h5 rfl ?_
      refine rhF.iload_n (pc := 37) dX12_town_37 1 rfl ?_
      refine rhF.ck (fun h7 => ?_)
      refine rhF.ck (fun h8 => ?_)
      refine rhF.bald (pc := 38) dX12_town_38 h7 h8 ?_
      refine rhF.ck (fun h9 => ?_)
      refine rhF.ck (fun h10 => ?_)
      refine rhF.bast (pc := 39) dX12_town_39 h9 h10 ?_
      refine rhF.iinc (pc := 40) (L' := [(1, rhI _), (0, rhR _)]) dX12_town_40 1 rfl rfl (by decide) rfl ?_
      refine rhF.goto (pc := 43) 20 dX12_town_43 (by decide) ?_
      refine rhF.sub [1, 0] rfl ?_
      exact ih _ _ _
    · refine rhF.sub [0] rfl ?_
      exact hk46 _ _
set_option maxHeartbeats 4000000 in
set_option maxRecDepth 100000 in
theorem b_X12_town_74 {E : rhE} {Γ : rhG} {k95 : rhM → Nat → Option (Int32 × rhM)} (hk95 : ∀ (M : rhM) (v0 : Nat), rhF E 10 2 yX12_town cX12_town (some .int) Γ (rhe1I Γ) (k95 M v0) 95 [(0, rhR v0)] [] Γ M) : ∀ (n : Nat) (M : rhM) (v0 : Nat), rhF E 10 2 yX12_town cX12_town (some .int) Γ (rhe1I Γ) (f_X12_town_74 k95 Γ n M v0) 74 [(0, rhR v0)] [] Γ M := by
  intro n
  induction n with
  | zero => intro M v0; rw [f_X12_town_74]; exact rhF.nope
  | succ n ih =>
    intro M v0
    rw [f_X12_town_74]
    refine rhF.aload_n (pc := 74) dX12_town_74 0 rfl ?_
    refine rhF.ck (fun h19 => ?_)
    refine rhF.callV (pc := 75) (ci := 12) (embc := rhe0I _ _) [] dX12_town_75 ml_X12_294 mv_X12_isGood ⟨_, rfl, rfl⟩ h19 (c_X12_isGood _ _ _ _) (by decide) (by decide) rfl (Nat.le_of_ble_eq_true rfl) (fun r20 _ => ?_)
    refine rhF.if_eq (pc := 78) 95 dX12_town_78 (by decide) (fun h21 => ?_) (fun h21 => ?_)
    · exact hk95 _ _
    · refine rhF.aload_n (pc := 81) dX12_town_81 0 rfl ?_
      refine rhF.get (pc := 82) (rhI _) dX12_town_82 fl_X12_266 h19 rfl ?_
      refine rhF.if_eq (pc := 85) 95 dX12_town_85 (by decide) (fun h22 => ?_) (fun h22 => ?_)
      · exact hk95 _ _
      · refine rhF.aload_n (pc := 88) dX12_town_88 0 rfl ?_
        refine rhF.callV (pc := 89) (ci := 12) (embc := rhe1U _) [] dX12_town_89 ml_X12_330 mv_X12_readLine ⟨_, rfl, rfl⟩ h19 (c_X12_readLine _ _ _ _) (by decide) (by decide) rfl (Nat.le_of_ble_eq_true rfl) (fun r23 _ => ?_)
        refine rhF.goto (pc := 92) 74 dX12_town_92 (by decide) ?_
        exact ih _ _
set_option maxHeartbeats 4000000 in
set_option maxRecDepth 100000 in
theorem b_X12_town_138 {E : rhE} {Γ : rhG} : ∀ (n : Nat) (M : rhM) (v0 : Nat) (v1 : Int32), rhF E 10 2 yX12_town cX12_town (some .int) Γ (rhe1I Γ) (f_X12_town_138 Γ n M v0 v1) 138 [(0, rhR v0), (1, rhI v1)] [] Γ M := by
  intro n
  induction n with
  | zero => intro M v0 v1; rw [f_X12_town_138]; exact rhF.nope
  | succ n ih =>
    intro M v0 v1
    rw [f_X12_town_138]
    refine rhF.iload_n (pc := 138) dX12_town_138 1 rfl ?_
    refine rhF.iconst (pc := 139) (v := 3) dX12_town_139 (by decide) ?_
    refine rhF.icmp_ge (pc := 140) 156 dX12_town_140 (by decide) (fun h33 => ?_) (fun h33 => ?_)
    · refine rhF.aload_n (pc := 143) dX12_town_143 0 rfl ?_
      refine rhF.ck (fun h34 => ?_)
      refine rhF.get (pc := 144) (rhR _) dX12_town_144 fl_X12_190 h34 rfl ?_
      refine rhF.iload_n (pc := 147) dX12_town_147 1 rfl ?_
      refine rhF.iconst (pc := 148) (v := (-1)) dX12_town_148 (by decide) ?_
      refine rhF.ck (fun h35 => ?_)
      refine rhF.ck (fun h36 => ?_)
      refine rhF.iast (pc := 149) dX12_town_149 h35 h36 ?_
      refine rhF.iinc (pc := 150) (L' := [(1, rhI _), (0, rhR _)]) dX12_town_150 1 rfl rfl (by decide) rfl ?_
      refine rhF.goto (pc := 153) 138 dX12_town_153 (by decide) ?_
      refine rhF.sub [1, 0] rfl ?_
      exact ih _ _ _
    · refine rhF.aload_n (pc := 156) dX12_town_156 0 rfl ?_
      refine rhF.ck (fun h39 => ?_)
      refine rhF.get (pc := 157) (rhR _) dX12_town_157 fl_X12_24 h39 rfl ?_
      refine rhF.aload_n (pc := 160) dX12_town_160 0 rfl ?_
      refine rhF.get (pc := 161) (rhI _) dX12_town_161 fl_X12_327 h39 rfl ?_
      refine rhF.ck (fun h40 => ?_)
      refine rhF.ck (fun h41 => ?_)
      refine rhF.iald (pc := 164) dX12_town_164 h40 h41 ?_
      exact rhF.zret (pc := 165) dX12_town_165 rfl rfl rfl
set_option maxHeartbeats 4000000 in
set_option maxRecDepth 100000 in
theorem b_X12_town_95 {E : rhE} {Γ : rhG} : ∀ (M : rhM) (v0 : Nat), rhF E 10 2 yX12_town cX12_town (some .int) Γ (rhe1I Γ) (f_X12_town_95 Γ M v0) 95 [(0, rhR v0)] [] Γ M := by
  intro M v0
  rw [f_X12_town_95]
  refine rhF.aload_n (pc := 95) dX12_town_95 0 rfl ?_
  refine rhF.ck (fun h24 => ?_)
  refine rhF.callV (pc := 96) (ci := 12) (embc := rhe0I _ _) [] dX12_town_96 ml_X12_294 mv_X12_isGood ⟨_, rfl, rfl⟩ h24 (c_X12_isGood _ _ _ _) (by decide) (by decide) rfl (Nat.le_of_ble_eq_true rfl) (fun r25 _ => ?_)
  refine rhF.if_ne (pc := 99) 104 dX12_town_99 (by decide) (fun h26 => ?_) (fun h26 => ?_)
  · refine rhF.iconst (pc := 102) (v := (-1)) dX12_town_102 (by decide) ?_
    exact rhF.zret (pc := 103) dX12_town_103 rfl rfl rfl
  · refine rhF.aload_n (pc := 104) dX12_town_104 0 rfl ?_
    refine rhF.aload_n (pc := 105) dX12_town_105 0 rfl ?_
    refine rhF.get (pc := 106) (rhI _) dX12_town_106 fl_X12_318 h24 rfl ?_
    refine rhF.puti (pc := 109) dX12_town_109 fl_X12_327 h24 (fun q hq => by cases hq; exact Or.inl rfl) ⟨rfl, rfl⟩ (fun _ => rfl) ?_
    refine rhF.aload_n (pc := 112) dX12_town_112 0 rfl ?_
    refine rhF.callV (pc := 113) (ci := 12) (embc := rhe1U _) [] dX12_town_113 ml_X12_211 mv_X12_begin ⟨_, rfl, rfl⟩ h24 (c_X12_begin _ _ _ _) (by decide) (by decide) rfl (Nat.le_of_ble_eq_true rfl) (fun r28 _ => ?_)
    refine rhF.aload_n (pc := 116) dX12_town_116 0 rfl ?_
    refine rhF.iconst (pc := 117) (v := 0) dX12_town_117 (by decide) ?_
    refine rhF.puti (pc := 118) dX12_town_118 fl_X12_333 h24 (fun q hq => by cases hq; exact Or.inl rfl) ⟨rfl, rfl⟩ (fun _ => rfl) ?_
    refine rhF.aload_n (pc := 121) dX12_town_121 0 rfl ?_
    refine rhF.iconst (pc := 122) (v := 0) dX12_town_122 (by decide) ?_
    refine rhF.puti (pc := 123) dX12_town_123 fl_X12_336 h24 (fun q hq => by cases hq; exact Or.inl rfl) ⟨rfl, rfl⟩ (fun _ => rfl) ?_
    refine rhF.aload_n (pc := 126) dX12_town_126 0 rfl ?_
    refine rhF.iconst (pc := 127) (v := 0) dX12_town_127 (by decide) ?_
    refine rhF.puti (pc := 128) dX12_town_128 fl_X12_339 h24 (fun q hq => by cases hq; exact Or.inl rfl) ⟨rfl, rfl⟩ (fun _ => rfl) ?_
    refine rhF.aload_n (pc := 131) dX12_town_131 0 rfl ?_
    refine rhF.iconst (pc := 132) (v := 0) dX12_town_132 (by decide) ?_
    refine rhF.puti (pc := 133) dX12_town_133 fl_X12_342 h24 (fun q hq => by cases hq; exact Or.inl rfl) ⟨rfl, rfl⟩ (fun _ => rfl) ?_
    refine rhF.iconst (pc := 136) (v := 0) dX12_town_136 (by decide) ?_
    refine rhF.istore_n (pc := 137) (L' := [(1, rhI _), (0, rhR _)]) dX12_town_137 (by decide) rfl ?_
    refine rhF.sub [1, 0] rfl ?_
    exact (b_X12_town_138 rhFU) _ _ _
set_option maxHeartbeats 4000000 in
set_option maxRecDepth 100000 in
theorem b_X12_town_46 {E : rhE} {Γ : rhG} : ∀ (M : rhM) (v0 : Nat), rhF E 10 2 yX12_town cX12_town (some .int) Γ (rhe1I Γ) (f_X12_town_46 Γ M v0) 46 [(0, rhR v0)] [] Γ M := by
  intro M v0
  rw [f_X12_town_46]
  refine rhF.aload_n (pc := 46) dX12_town_46 0 rfl ?_
  refine rhF.iconst (pc := 47) (v := 0) dX12_town_47 (by decide) ?_
  refine rhF.ck (fun h13 => ?_)
  refine rhF.puti (pc := 48) dX12_town_48 fl_X12_324 h13 (fun q hq => by cases hq; exact Or.inl rfl) ⟨rfl, rfl⟩ (fun _ => rfl) ?_
  refine rhF.aload_n (pc := 51) dX12_town_51 0 rfl ?_
  refine rhF.iconst (pc := 52) (v := 0) dX12_town_52 (by decide) ?_
  refine rhF.puti (pc := 53) dX12_town_53 fl_X12_256 h13 (fun q hq => by cases hq; exact Or.inl rfl) ⟨rfl, rfl⟩ (fun _ => rfl) ?_
  refine rhF.aload_n (pc := 56) dX12_town_56 0 rfl ?_
  refine rhF.iconst (pc := 57) (v := 1) dX12_town_57 (by decide) ?_
  refine rhF.aload_n (pc := 58) dX12_town_58 0 rfl ?_
  refine rhF.get (pc := 59) (rhI _) dX12_town_59 fl_X12_327 h13 rfl ?_
  refine rhF.isub (pc := 62) dX12_town_62 ?_
  refine rhF.puti (pc := 63) dX12_town_63 fl_X12_318 h13 (fun q hq => by cases hq; exact Or.inl rfl) ⟨rfl, rfl⟩ (fun _ => rfl) ?_
  refine rhF.aload_n (pc := 66) dX12_town_66 0 rfl ?_
  refine rhF.callV (pc := 67) (ci := 12) (embc := rhe1U _) [] dX12_town_67 ml_X12_208 mv_X12_clearBank ⟨_, rfl, rfl⟩ h13 (c_X12_clearBank _ _ _ _) (by decide) (by decide) rfl (Nat.le_of_ble_eq_true rfl) (fun r17 _ => ?_)
  refine rhF.aload_n (pc := 70) dX12_town_70 0 rfl ?_
  refine rhF.callV (pc := 71) (ci := 12) (embc := rhe1U _) [] dX12_town_71 ml_X12_298 mv_X12_goOn ⟨_, rfl, rfl⟩ h13 (c_X12_goOn _ _ _ _) (by decide) (by decide) rfl (Nat.le_of_ble_eq_true rfl) (fun r18 _ => ?_)
  exact (b_X12_town_74 (b_X12_town_95) rhFU) _ _
set_option maxHeartbeats 4000000 in
set_option maxRecDepth 100000 in
theorem b_X12_town {E : rhE} {Γ : rhG} : ∀ (M : rhM) (v0 : Nat), rhF E 10 2 yX12_town cX12_town (some .int) Γ (rhe1I Γ) (f_X12_town Γ M v0) 0 [(0, rhR v0)] [] Γ M := by
  intro M v0
  rw [f_X12_town]
  refine rhF.aload_n (pc := 0) dX12_town_0 0 rfl ?_
  refine rhF.iconst (pc := 1) (v := 0) dX12_town_1 (by decide) ?_
  refine rhF.ck (fun h1 => ?_)
  refine rhF.puti (pc := 2) dX12_town_2 fl_X12_217 h1 (fun q hq => by cases hq; exact Or.inl rfl) ⟨rfl, rfl⟩ (fun _ => rfl) ?_
  refine rhF.aload_n (pc := 5) dX12_town_5 0 rfl ?_
  refine rhF.iconst (pc := 6) (v := (-1)) dX12_town_6 (by decide) ?_
  refine rhF.puti (pc := 7) dX12_town_7 fl_X12_16 h1 (fun q hq => by cases hq; exact Or.inl rfl) ⟨rfl, rfl⟩ (fun _ => rfl) ?_
  refine rhF.aload_n (pc := 10) dX12_town_10 0 rfl ?_
  refine rhF.aload_n (pc := 11) dX12_town_11 0 rfl ?_
  refine rhF.get (pc := 12) (rhI _) dX12_town_12 fl_X12_324 h1 rfl ?_
  refine rhF.puti (pc := 15) dX12_town_15 fl_X12_214 h1 (fun q hq => by cases hq; exact Or.inl rfl) ⟨rfl, rfl⟩ (fun _ => rfl) ?_
  refine rhF.iconst (pc := 18) (v := 0) dX12_town_18 (by decide) ?_
  refine rhF.istore_n (pc := 19) (L' := [(1, rhI _), (0, rhR _)]) dX12_town_19 (by decide) rfl ?_
  refine rhF.sub [1, 0] rfl ?_
  exact (b_X12_town_20 (b_X12_town_46) rhFU) _ _ _
theorem c_X12_town (E : rhE) (Γ : rhG) (M : rhM) (v0 : Nat) : ∀ a, f_X12_town Γ M v0 = some a → rhC E 10 yX12_town cX12_town 2 (some .int) [rhR v0] Γ M ((rhe1I Γ) a) := rhF.met (by decide +kernel) (Nat.le_of_ble_eq_true rfl) (b_X12_town M v0)
def f_X12_undo_36 (k118 : rhM → Nat → Int32 → Option (Int32 × rhM)) (Γ : rhG) : Nat → rhM → Nat → Int32 → Int32 → Option (Int32 × rhM)
  | 0, _, _, _, _ => none
  | n + 1, M, v0, v2, v3 =>
    if v3 < v2 then
      (rhck (Γ.2.2.1 v0 = 13) <|
      let M9 := rhsi M v0 48 ((M.1 v0 48) - 1)
      rhck (Γ.2.2.1 (M.2.2 v0 47) = 15) <|
      rhck (0 ≤ (M9.1 v0 48).toInt ∧ (M9.1 v0 48).toInt < (Γ.2.2.2 (M.2.2 v0 47) : Nat)) <|
      let M12 := rhsi M9 v0 49 ((M9.1 v0 49) - (M9.1 (M.2.2 v0 47) (M9.1 v0 48).toNatClampNeg))
      rhck (Γ.2.2.1 (M.2.2 v0 46) = 15) <|
      rhck (0 ≤ (M12.1 v0 48).toInt ∧ (M12.1 v0 48).toInt < (Γ.2.2.2 (M.2.2 v0 46) : Nat)) <|
      (f_X12_moves Γ M12 v0 ((M12.1 (M.2.2 v0 46) (M12.1 v0 48).toNatClampNeg) - (M12.1 (M.2.2 v0 46) (M12.1 v0 48).toNatClampNeg) / 10 * 10) (((M12.1 (M.2.2 v0 46) (M12.1 v0 48).toNatClampNeg) / 10) - ((M12.1 (M.2.2 v0 46) (M12.1 v0 48).toNatClampNeg) / 10) / 10 * 10) ((M12.1 (M.2.2 v0 46) (M12.1 v0 48).toNatClampNeg) / 100)).bind fun r15 =>
      let x16 : Int32 := v3 + 1
      f_X12_undo_36 k118 Γ n r15 v0 v2 x16)
    else
      k118 M v0 v2
def f_X12_undo_118 (Γ : rhG) (M : rhM) (v0 : Nat) (v2 : Int32) : Option (Int32 × rhM) :=
  rhck (Γ.2.2.1 v0 = 13) <|
  (f_X12_keepNow Γ M v0).bind fun r18 =>
  some ((v2, r18))
def f_X12_undo_29 (Γ : rhG) (M : rhM) (v0 : Nat) (s0 : Int32) : Option (Int32 × rhM) :=
  rhck (Γ.2.2.1 v0 = 13) <|
  (f_X12_layNow Γ M v0).bind fun r6 =>
  f_X12_undo_36 (f_X12_undo_118 Γ) Γ rhFU r6 v0 s0 0
def f_X12_undo (Γ : rhG) (M : rhM) (v0 : Nat) (v1 : Int32) : Option (Int32 × rhM) :=
  (f_X12_isIn Γ M v1 (0 : Int32) (300 : Int32)).bind fun r1 =>
  if r1 = 0 then
    (some (((-1), M)))
  else
    rhck (Γ.2.2.1 v0 = 13) <|
    if v1 < (M.1 v0 48) then
      (f_X12_undo_29 Γ M v0 v1)
    else
      f_X12_undo_29 Γ M v0 (M.1 v0 48)
set_option maxHeartbeats 4000000 in
set_option maxRecDepth 100000 in
theorem b_X12_undo_36 {E : rhE} {Γ : rhG} {k118 : rhM → Nat → Int32 → Option (Int32 × rhM)} (hk118 : ∀ (M : rhM) (v0 : Nat) (v2 : Int32), rhF E 5 4 yX12_undo cX12_undo (some .int) Γ (rhe1I Γ) (k118 M v0 v2) 118 [(0, rhR v0), (2, rhI v2)] [] Γ M) : ∀ (n : Nat) (M : rhM) (v0 : Nat) (v2 : Int32) (v3 : Int32), rhF E 5 4 yX12_undo cX12_undo (some .int) Γ (rhe1I Γ) (f_X12_undo_36 k118 Γ n M v0 v2 v3) 36 [(0, rhR v0), (2, rhI v2), (3, rhI v3)] [] Γ M := by
  intro n
  induction n with
  | zero => intro M v0 v2 v3; rw [f_X12_undo_36]; exact rhF.nope
  | succ n ih =>
    intro M v0 v2 v3
    rw [f_X12_undo_36]
    refine rhF.iload_n (pc := 36) dX12_undo_36 2 rfl ?_
    refine rhF.iload_n (pc := 37) dX12_undo_37 1 rfl ?_
    refine rhF.icmp_ge (pc := 38) 118 dX12_undo_38 (by decide) (fun h7 => ?_) (fun h7 => ?_)
    · refine rhF.aload_n (pc := 41) dX12_undo_41 0 rfl ?_
      refine rhF.dupr (pc := 42) dX12_undo_42 ?_
      refine rhF.ck (fun h8 => ?_)
      refine rhF.get (pc := 43) (rhI _) dX12_undo_43 fl_X12_458 h8 rfl ?_
      refine rhF.iconst (pc := 46) (v := 1) dX12_undo_46 (by decide) ?_
      refine rhF.isub (pc := 47) dX12_undo_47 ?_
      refine rhF.puti (pc := 48) dX12_undo_48 fl_X12_458 h8 (fun q hq => by cases hq; exact Or.inl rfl) ⟨rfl, rfl⟩ (fun _ => rfl) ?_
      refine rhF.aload_n (pc := 51) dX12_undo_51 0 rfl ?_
      refine rhF.dupr (pc := 52) dX12_undo_52 ?_
      refine rhF.get (pc := 53) (rhI _) dX12_undo_53 fl_X12_461 h8 rfl ?_
      refine rhF.aload_n (pc := 56) dX12_undo_56 0 rfl ?_
      refine rhF.get (pc := 57) (rhR _) dX12_undo_57 fl_X12_113 h8 rfl ?_
      refine rhF.aload_n (pc := 60) dX12_undo_60 0 rfl ?_
      refine rhF.get (pc := 61) (rhI _) dX12_undo_61 fl_X12_458 h8 rfl ?_
      refine rhF.ck (fun h10 => ?_)
      refine rhF.ck (fun h11 => ?_)
      refine rhF.iald (pc := 64) dX12_undo_64 h10 h11 ?_
      refine rhF.isub (pc := 65) dX12_undo_65 ?_
      refine rhF.puti (pc := 66) dX12_undo_66 fl_X12_461 h8 (fun q hq => by cases hq; exact Or.inl rfl) ⟨rfl, rfl⟩ (fun _ => rfl) ?_
      refine rhF.aload_n (pc := 69) dX12_undo_69 0 rfl ?_
      refine rhF.aload_n (pc := 70) dX12_undo_70 0 rfl ?_
      refine rhF.get (pc := 71) (rhR _) dX12_undo_71 fl_X12_110 h8 rfl ?_
      refine rhF.aload_n (pc := 74) dX12_undo_74 0 rfl ?_
      refine rhF.get (pc := 75) (rhI _) dX12_undo_75 fl_X12_458 h8 rfl ?_
      refine rhF.ck (fun h13 => ?_)
      refine rhF.ck (fun h14 => ?_)
      refine rhF.iald (pc := 78) dX12_undo_78 h13 h14 ?_
      refine rhF.bipush (pc := 79) (v := 10) dX12_undo_79 (by decide) ?_
      refine rhF.iremc (pc := 81) dX12_undo_81 (by decide) ?_
      refine rhF.aload_n (pc := 82) dX12_undo_82 0 rfl ?_
      refine rhF.get (pc := 83) (rhR _) dX12_undo_83 fl_X12_110 h8 rfl ?_
      refine rhF.aload_n (pc := 86) dX12_undo_86 0 rfl ?_
      refine rhF.get (pc := 87) (rhI _) dX12_undo_87 fl_X12_458 h8 rfl ?_
      refine rhF.iald (pc := 90) dX12_undo_90 h13 h14 ?_
      refine rhF.bipush (pc := 91) (v := 10) dX12_undo_91 (by decide) ?_
      refine rhF.idivc (pc := 93) dX12_undo_93 (by decide) ?_
      refine rhF.bipush (pc := 94) (v := 10) dX12_undo_94 (by decide) ?_
      refine rhF.iremc (pc := 96) dX12_undo_96 (by decide) ?_
      refine rhF.aload_n (pc := 97) dX12_undo_97 0 rfl ?_
      refine rhF.get (pc := 98) (rhR _) dX12_undo_98 fl_X12_110 h8 rfl ?_
      refine rhF.aload_n (pc := 101) dX12_undo_101 0 rfl ?_
      refine rhF.get (pc := 102) (rhI _) dX12_undo_102 fl_X12_458 h8 rfl ?_
      refine rhF.iald (pc := 105) dX12_undo_105 h13 h14 ?_
      refine rhF.bipush (pc := 106) (v := 100) dX12_undo_106 (by decide) ?_
      refine rhF.idivc (pc := 108) dX12_undo_108 (by decide) ?_
      refine rhF.callV (pc := 109) (ci := 12) (embc := rhe1U _) [rhI _, rhI _, rhI _] dX12_undo_109 ml_X12_474 mv_X12_moves ⟨_, rfl, rfl⟩ h8 (c_X12_moves _ _ _ _ _ _ _) (by decide) (by decide) rfl (Nat.le_of_ble_eq_true rfl) (fun r15 _ => ?_)
      refine rhF.iinc (pc := 112) (L' := [(3, rhI _), (0, rhR _), (2, rhI _)]) dX12_undo_112 2 rfl rfl (by decide) rfl ?_
      refine rhF.goto (pc := 115) 36 dX12_undo_115 (by decide) ?_
      refine rhF.sub [1, 2, 0] rfl ?_
      exact ih _ _ _ _
    · refine rhF.sub [0, 1] rfl ?_
      exact hk118 _ _ _
set_option maxHeartbeats 4000000 in
set_option maxRecDepth 100000 in
theorem b_X12_undo_118 {E : rhE} {Γ : rhG} : ∀ (M : rhM) (v0 : Nat) (v2 : Int32), rhF E 5 4 yX12_undo cX12_undo (some .int) Γ (rhe1I Γ) (f_X12_undo_118 Γ M v0 v2) 118 [(0, rhR v0), (2, rhI v2)] [] Γ M := by
  intro M v0 v2
  rw [f_X12_undo_118]
  refine rhF.aload_n (pc := 118) dX12_undo_118 0 rfl ?_
  refine rhF.ck (fun h17 => ?_)
  refine rhF.callV (pc := 119) (ci := 12) (embc := rhe1U _) [] dX12_undo_119 ml_X12_455 mv_X12_keepNow ⟨_, rfl, rfl⟩ h17 (c_X12_keepNow _ _ _ _) (by decide) (by decide) rfl (Nat.le_of_ble_eq_true rfl) (fun r18 _ => ?_)
  refine rhF.iload_n (pc := 122) dX12_undo_122 1 rfl ?_
  exact rhF.zret (pc := 123) dX12_undo_123 rfl rfl rfl
set_option maxHeartbeats 4000000 in
set_option maxRecDepth 100000 in
theorem b_X12_undo_29 {E : rhE} {Γ : rhG} : ∀ (M : rhM) (v0 : Nat) (s0 : Int32), rhF E 5 4 yX12_undo cX12_undo (some .int) Γ (rhe1I Γ) (f_X12_undo_29 Γ M v0 s0) 29 [(0, rhR v0)] [rhI s0] Γ M := by
  intro M v0 s0
  rw [f_X12_undo_29]
  refine rhF.istore_n (pc := 29) (L' := [(2, rhI _), (0, rhR _)]) dX12_undo_29 (by decide) rfl ?_
  refine rhF.aload_n (pc := 30) dX12_undo_30 1 rfl ?_
  refine rhF.ck (fun h5 => ?_)
  refine rhF.callV (pc := 31) (ci := 12) (embc := rhe1U _) [] dX12_undo_31 ml_X12_467 mv_X12_layNow ⟨_, rfl, rfl⟩ h5 (c_X12_layNow _ _ _ _) (by decide) (by decide) rfl (Nat.le_of_ble_eq_true rfl) (fun r6 _ => ?_)
  refine rhF.iconst (pc := 34) (v := 0) dX12_undo_34 (by decide) ?_
  refine rhF.istore_n (pc := 35) (L' := [(3, rhI _), (2, rhI _), (0, rhR _)]) dX12_undo_35 (by decide) rfl ?_
  refine rhF.sub [2, 1, 0] rfl ?_
  exact (b_X12_undo_36 (b_X12_undo_118) rhFU) _ _ _ _
set_option maxHeartbeats 4000000 in
set_option maxRecDepth 100000 in
theorem b_X12_undo {E : rhE} {Γ : rhG} : ∀ (M : rhM) (v0 : Nat) (v1 : Int32), rhF E 5 4 yX12_undo cX12_undo (some .int) Γ (rhe1I Γ) (f_X12_undo Γ M v0 v1) 0 [(0, rhR v0), (1, rhI v1)] [] Γ M := by
  intro M v0 v1
  rw [f_X12_undo]
  refine rhF.iload_n (pc := 0) dX12_undo_0 1 rfl ?_
  refine rhF.iconst (pc := 1) (v := 0) dX12_undo_1 (by decide) ?_
  refine rhF.sipush (pc := 2) (v := 300) dX12_undo_2 (by decide) ?_
  refine rhF.callS (pc := 5) (embc := rhe0I _ _) [rhI _, rhI _, rhI _] dX12_undo_5 ml_X12_415 ms_X12_isIn (c_X12_isIn _ _ _ _ _ _) (by decide) (by decide) rfl (Nat.le_of_ble_eq_true rfl) (fun r1 _ => ?_)
  refine rhF.if_ne (pc := 8) 13 dX12_undo_8 (by decide) (fun h2 => ?_) (fun h2 => ?_)
  · refine rhF.iconst (pc := 11) (v := (-1)) dX12_undo_11 (by decide) ?_
    exact rhF.zret (pc := 12) dX12_undo_12 rfl rfl rfl
  · refine rhF.iload_n (pc := 13) dX12_undo_13 1 rfl ?_
    refine rhF.aload_n (pc := 14) dX12_undo_14 0 rfl ?_
    refine rhF.ck (fun h3 => ?_)
    refine rhF.get (pc := 15) (rhI _) dX12_undo_15 fl_X12_458 h3 rfl ?_
    refine rhF.icmp_ge (pc := 18) 25 dX12_undo_18 (by decide) (fun h4 => ?_) (fun h4 => ?_)
    · refine rhF.iload_n (pc := 21) dX12_undo_21 1 rfl ?_
      refine rhF.goto (pc := 22) 29 dX12_undo_22 (by decide) ?_
      refine rhF.sub [0] rfl ?_
      exact (b_X12_undo_29) _ _ _
    · refine rhF.aload_n (pc := 25) dX12_undo_25 0 rfl ?_
      refine rhF.get (pc := 26) (rhI _) dX12_undo_26 fl_X12_458 h3 rfl ?_
      refine rhF.sub [0] rfl ?_
      exact (b_X12_undo_29) _ _ _
theorem c_X12_undo (E : rhE) (Γ : rhG) (M : rhM) (v0 : Nat) (v1 : Int32) : ∀ a, f_X12_undo Γ M v0 v1 = some a → rhC E 5 yX12_undo cX12_undo 4 (some .int) [rhR v0, rhI v1] Γ M ((rhe1I Γ) a) := rhF.met (by decide +kernel) (Nat.le_of_ble_eq_true rfl) (b_X12_undo M v0 v1)
def f_X12_untell (Γ : rhG) (M : rhM) (v0 : Nat) (v1 : Int32) : Option (Int32 × rhM) :=
  rhck (Γ.2.2.1 v0 = 13) <|
  (f_X12_isIn Γ M v1 (0 : Int32) ((M.1 v0 82) - 1)).bind fun r2 =>
  if r2 = 0 then
    (some ((0, M)))
  else
    rhck (Γ.2.2.1 (M.2.2 v0 76) = 15) <|
    rhck (0 ≤ (v1).toInt ∧ (v1).toInt < (Γ.2.2.2 (M.2.2 v0 76) : Nat)) <|
    if (M.1 (M.2.2 v0 76) v1.toNatClampNeg) < 0 then
      (let M7 := rhsi M (M.2.2 v0 76) (v1 : Int32).toNatClampNeg (M.1 v0 83)
      some ((1, M7)))
    else
      some ((0, M))
set_option maxHeartbeats 4000000 in
set_option maxRecDepth 100000 in
theorem b_X12_untell {E : rhE} {Γ : rhG} : ∀ (M : rhM) (v0 : Nat) (v1 : Int32), rhF E 5 2 yX12_untell cX12_untell (some .boolean) Γ (rhe1I Γ) (f_X12_untell Γ M v0 v1) 0 [(0, rhR v0), (1, rhI v1)] [] Γ M := by
  intro M v0 v1
  rw [f_X12_untell]
  refine rhF.iload_n (pc := 0) dX12_untell_0 1 rfl ?_
  refine rhF.iconst (pc := 1) (v := 0) dX12_untell_1 (by decide) ?_
  refine rhF.aload_n (pc := 2) dX12_untell_2 0 rfl ?_
  refine rhF.ck (fun h1 => ?_)
  refine rhF.get (pc := 3) (rhI _) dX12_untell_3 fl_X12_333 h1 rfl ?_
  refine rhF.iconst (pc := 6) (v := 1) dX12_untell_6 (by decide) ?_
  refine rhF.isub (pc := 7) dX12_untell_7 ?_
  refine rhF.callS (pc := 8) (embc := rhe0I _ _) [rhI _, rhI _, rhI _] dX12_untell_8 ml_X12_415 ms_X12_isIn (c_X12_isIn _ _ _ _ _ _) (by decide) (by decide) rfl (Nat.le_of_ble_eq_true rfl) (fun r2 _ => ?_)
  refine rhF.if_eq (pc := 11) 23 dX12_untell_11 (by decide) (fun h3 => ?_) (fun h3 => ?_)
  · refine rhF.iconst (pc := 23) (v := 0) dX12_untell_23 (by decide) ?_
    exact rhF.zret (pc := 24) dX12_untell_24 rfl rfl rfl
  · refine rhF.aload_n (pc := 14) dX12_untell_14 0 rfl ?_
    refine rhF.get (pc := 15) (rhR _) dX12_untell_15 fl_X12_172 h1 rfl ?_
    refine rhF.iload_n (pc := 18) dX12_untell_18 1 rfl ?_
    refine rhF.ck (fun h4 => ?_)
    refine rhF.ck (fun h5 => ?_)
    refine rhF.iald (pc := 19) dX12_untell_19 h4 h5 ?_
    refine rhF.if_lt (pc := 20) 25 dX12_untell_20 (by decide) (fun h6 => ?_) (fun h6 => ?_)
    · refine rhF.aload_n (pc := 25) dX12_untell_25 0 rfl ?_
      refine rhF.get (pc := 26) (rhR _) dX12_untell_26 fl_X12_172 h1 rfl ?_
      refine rhF.iload_n (pc := 29) dX12_untell_29 1 rfl ?_
      refine rhF.aload_n (pc := 30) dX12_untell_30 0 rfl ?_
      refine rhF.get (pc := 31) (rhI _) dX12_untell_31 fl_X12_555 h1 rfl ?_
      refine rhF.iast (pc := 34) dX12_untell_34 h4 h5 ?_
      refine rhF.iconst (pc := 35) (v := 1) dX12_untell_35 (by decide) ?_
      exact rhF.zret (pc := 36) dX12_untell_36 rfl rfl rfl
    · refine rhF.iconst (pc := 23) (v := 0) dX12_untell_23 (by decide) ?_
      exact rhF.zret (pc := 24) dX12_untell_24 rfl rfl rfl
theorem c_X12_untell (E : rhE) (Γ : rhG) (M : rhM) (v0 : Nat) (v1 : Int32) : ∀ a, f_X12_untell Γ M v0 v1 = some a → rhC E 5 yX12_untell cX12_untell 2 (some .boolean) [rhR v0, rhI v1] Γ M ((rhe1I Γ) a) := rhF.met (by decide +kernel) (Nat.le_of_ble_eq_true rfl) (b_X12_untell M v0 v1)
def f_X12_where_28 (k45 : rhM → Nat → Int32 → Int32 → Int32 → Option (Int32 × rhM)) (Γ : rhG) : Nat → rhM → Nat → Int32 → Int32 → Int32 → Int32 → Option (Int32 × rhM)
  | 0, _, _, _, _, _, _ => none
  | n + 1, M, v0, v1, v2, v3, v4 =>
    rhck (Γ.2.2.1 v0 = 13) <|
    rhck (Γ.2.2.1 (M.2.2 v0 39) = 15) <|
    rhck (0 ≤ (v4).toInt ∧ (v4).toInt < (Γ.2.2.2 (M.2.2 v0 39) : Nat)) <|
    if (M.1 (M.2.2 v0 39) v4.toNatClampNeg) = v1 then
      (k45 M v0 v2 v3 v4)
    else
      let x11 : Int32 := v4 + 1
      f_X12_where_28 k45 Γ n M v0 v1 v2 v3 x11
def f_X12_where_45 (k62 : rhM → Nat → Int32 → Int32 → Int32 → Option (Int32 × rhM)) (Γ : rhG) : Nat → rhM → Nat → Int32 → Int32 → Int32 → Option (Int32 × rhM)
  | 0, _, _, _, _, _ => none
  | n + 1, M, v0, v2, v3, v4 =>
    rhck (Γ.2.2.1 v0 = 13) <|
    rhck (Γ.2.2.1 (M.2.2 v0 40) = 15) <|
    rhck (0 ≤ (v3).toInt ∧ (v3).toInt < (Γ.2.2.2 (M.2.2 v0 40) : Nat)) <|
    if v4 < (M.1 (M.2.2 v0 40) v3.toNatClampNeg) then
      (k62 M v0 v2 v3 v4)
    else
      let x16 : Int32 := v3 + 1
      f_X12_where_45 k62 Γ n M v0 v2 x16 v4
def f_X12_where_62 (Γ : rhG) (M : rhM) (v0 : Nat) (v2 : Int32) (v3 : Int32) (v4 : Int32) : Option (Int32 × rhM) :=
  if v2 = 0 then
    (some ((v3, M)))
  else
    rhck (Γ.2.2.1 v0 = 13) <|
    (f_X12_beginOf Γ M v0 v3).bind fun r19 =>
    some ((v4 - r19, M))
def f_X12_where (Γ : rhG) (M : rhM) (v0 : Nat) (v1 : Int32) (v2 : Int32) : Option (Int32 × rhM) :=
  rhck (Γ.2.2.1 v0 = 13) <|
  (f_X12_isHouse Γ M v0 v1).bind fun r2 =>
  if r2 = 0 then
    (some (((-1), M)))
  else
    (f_X12_isIn Γ M v2 (0 : Int32) (1 : Int32)).bind fun r4 =>
    if r4 = 0 then
      (some (((-1), M)))
    else
      (f_X12_layNow Γ M v0).bind fun r6 =>
      f_X12_where_28 (f_X12_where_45 (f_X12_where_62 Γ) Γ rhFU) Γ rhFU r6 v0 v1 v2 0 0
set_option maxHeartbeats 4000000 in
set_option maxRecDepth 100000 in
theorem b_X12_where_28 {E : rhE} {Γ : rhG} {k45 : rhM → Nat → Int32 → Int32 → Int32 → Option (Int32 × rhM)} (hk45 : ∀ (M : rhM) (v0 : Nat) (v2 : Int32) (v3 : Int32) (v4 : Int32), rhF E 6 5 yX12_where cX12_where (some .int) Γ (rhe1I Γ) (k45 M v0 v2 v3 v4) 45 [(0, rhR v0), (2, rhI v2), (3, rhI v3), (4, rhI v4)] [] Γ M) : ∀ (n : Nat) (M : rhM) (v0 : Nat) (v1 : Int32) (v2 : Int32) (v3 : Int32) (v4 : Int32), rhF E 6 5 yX12_where cX12_where (some .int) Γ (rhe1I Γ) (f_X12_where_28 k45 Γ n M v0 v1 v2 v3 v4) 28 [(0, rhR v0), (1, rhI v1), (2, rhI v2), (3, rhI v3), (4, rhI v4)] [] Γ M := by
  intro n
  induction n with
  | zero => intro M v0 v1 v2 v3 v4; rw [f_X12_where_28]; exact rhF.nope
  | succ n ih =>
    intro M v0 v1 v2 v3 v4
    rw [f_X12_where_28]
    refine rhF.aload_n (pc := 28) dX12_where_28 0 rfl ?_
    refine rhF.ck (fun h7 => ?_)
    refine rhF.get (pc := 29) (rhR _) dX12_where_29 fl_X12_92 h7 rfl ?_
    refine rhF.iload (pc := 32) dX12_where_32 4 rfl ?_
    refine rhF.ck (fun h8 => ?_)
    refine rhF.ck (fun h9 => ?_)
    refine rhF.iald (pc := 34) dX12_where_34 h8 h9 ?_
    refine rhF.iload_n (pc := 35) dX12_where_35 1 rfl ?_
    refine rhF.icmp_eq (pc := 36) 45 dX12_where_36 (by decide) (fun h10 => ?_) (fun h10 => ?_)
    · refine rhF.sub [0, 2, 3, 4] rfl ?_
      exact hk45 _ _ _ _ _
    · refine rhF.iinc (pc := 39) (L' := [(4, rhI _), (0, rhR _), (1, rhI _), (2, rhI _), (3, rhI _)]) dX12_where_39 4 rfl rfl (by decide) rfl ?_
      refine rhF.goto (pc := 42) 28 dX12_where_42 (by decide) ?_
      refine rhF.sub [1, 2, 3, 4, 0] rfl ?_
      exact ih _ _ _ _ _ _
set_option maxHeartbeats 4000000 in
set_option maxRecDepth 100000 in
theorem b_X12_where_45 {E : rhE} {Γ : rhG} {k62 : rhM → Nat → Int32 → Int32 → Int32 → Option (Int32 × rhM)} (hk62 : ∀ (M : rhM) (v0 : Nat) (v2 : Int32) (v3 : Int32) (v4 : Int32), rhF E 6 5 yX12_where cX12_where (some .int) Γ (rhe1I Γ) (k62 M v0 v2 v3 v4) 62 [(0, rhR v0), (2, rhI v2), (3, rhI v3), (4, rhI v4)] [] Γ M) : ∀ (n : Nat) (M : rhM) (v0 : Nat) (v2 : Int32) (v3 : Int32) (v4 : Int32), rhF E 6 5 yX12_where cX12_where (some .int) Γ (rhe1I Γ) (f_X12_where_45 k62 Γ n M v0 v2 v3 v4) 45 [(0, rhR v0), (2, rhI v2), (3, rhI v3), (4, rhI v4)] [] Γ M := by
  intro n
  induction n with
  | zero => intro M v0 v2 v3 v4; rw [f_X12_where_45]; exact rhF.nope
  | succ n ih =>
    intro M v0 v2 v3 v4
    rw [f_X12_where_45]
    refine rhF.aload_n (pc := 45) dX12_where_45 0 rfl ?_
    refine rhF.ck (fun h12 => ?_)
    refine rhF.get (pc := 46) (rhR _) dX12_where_46 fl_X12_95 h12 rfl ?_
    refine rhF.iload_n (pc := 49) dX12_where_49 2 rfl ?_
    refine rhF.ck (fun h13 => ?_)
    refine rhF.ck (fun h14 => ?_)
    refine rhF.iald (pc := 50) dX12_where_50 h13 h14 ?_
    refine rhF.iload (pc := 51) dX12_where_51 3 rfl ?_
    refine rhF.icmp_gt (pc := 53) 62 dX12_where_53 (by decide) (fun h15 => ?_) (fun h15 => ?_)
    · exact hk62 _ _ _ _ _
    · refine rhF.iinc (pc := 56) (L' := [(3, rhI _), (0, rhR _), (2, rhI _), (4, rhI _)]) dX12_where_56 2 rfl rfl (by decide) rfl ?_
      refine rhF.goto (pc := 59) 45 dX12_where_59 (by decide) ?_
      refine rhF.sub [1, 2, 0, 3] rfl ?_
      exact ih _ _ _ _ _
set_option maxHeartbeats 4000000 in
set_option maxRecDepth 100000 in
theorem b_X12_where_62 {E : rhE} {Γ : rhG} : ∀ (M : rhM) (v0 : Nat) (v2 : Int32) (v3 : Int32) (v4 : Int32), rhF E 6 5 yX12_where cX12_where (some .int) Γ (rhe1I Γ) (f_X12_where_62 Γ M v0 v2 v3 v4) 62 [(0, rhR v0), (2, rhI v2), (3, rhI v3), (4, rhI v4)] [] Γ M := by
  intro M v0 v2 v3 v4
  rw [f_X12_where_62]
  refine rhF.iload_n (pc := 62) dX12_where_62 1 rfl ?_
  refine rhF.if_ne (pc := 63) 70 dX12_where_63 (by decide) (fun h17 => ?_) (fun h17 => ?_)
  · refine rhF.iload_n (pc := 66) dX12_where_66 2 rfl ?_
    refine rhF.goto (pc := 67) 78 dX12_where_67 (by decide) ?_
    exact rhF.zret (pc := 78) dX12_where_78 rfl rfl rfl
  · refine rhF.iload (pc := 70) dX12_where_70 3 rfl ?_
    refine rhF.aload_n (pc := 72) dX12_where_72 0 rfl ?_
    refine rhF.iload_n (pc := 73) dX12_where_73 2 rfl ?_
    refine rhF.ck (fun h18 => ?_)
    refine rhF.callV (pc := 74) (ci := 12) (embc := rhe0I _ _) [rhI _] dX12_where_74 ml_X12_425 mv_X12_beginOf ⟨_, rfl, rfl⟩ h18 (c_X12_beginOf _ _ _ _ _) (by decide) (by decide) rfl (Nat.le_of_ble_eq_true rfl) (fun r19 _ => ?_)
    refine rhF.isub (pc := 77) dX12_where_77 ?_
    exact rhF.zret (pc := 78) dX12_where_78 rfl rfl rfl
set_option maxHeartbeats 4000000 in
set_option maxRecDepth 100000 in
theorem b_X12_where {E : rhE} {Γ : rhG} : ∀ (M : rhM) (v0 : Nat) (v1 : Int32) (v2 : Int32), rhF E 6 5 yX12_where cX12_where (some .int) Γ (rhe1I Γ) (f_X12_where Γ M v0 v1 v2) 0 [(0, rhR v0), (1, rhI v1), (2, rhI v2)] [] Γ M := by
  intro M v0 v1 v2
  rw [f_X12_where]
  refine rhF.aload_n (pc := 0) dX12_where_0 0 rfl ?_
  refine rhF.iload_n (pc := 1) dX12_where_1 1 rfl ?_
  refine rhF.ck (fun h1 => ?_)
  refine rhF.callV (pc := 2) (ci := 12) (embc := rhe0I _ _) [rhI _] dX12_where_2 ml_X12_464 mv_X12_isHouse ⟨_, rfl, rfl⟩ h1 (c_X12_isHouse _ _ _ _ _) (by decide) (by decide) rfl (Nat.le_of_ble_eq_true rfl) (fun r2 _ => ?_)
  refine rhF.if_eq (pc := 5) 17 dX12_where_5 (by decide) (fun h3 => ?_) (fun h3 => ?_)
  · refine rhF.iconst (pc := 17) (v := (-1)) dX12_where_17 (by decide) ?_
    exact rhF.zret (pc := 18) dX12_where_18 rfl rfl rfl
  · refine rhF.iload_n (pc := 8) dX12_where_8 2 rfl ?_
    refine rhF.iconst (pc := 9) (v := 0) dX12_where_9 (by decide) ?_
    refine rhF.iconst (pc := 10) (v := 1) dX12_where_10 (by decide) ?_
    refine rhF.callS (pc := 11) (embc := rhe0I _ _) [rhI _, rhI _, rhI _] dX12_where_11 ml_X12_415 ms_X12_isIn (c_X12_isIn _ _ _ _ _ _) (by decide) (by decide) rfl (Nat.le_of_ble_eq_true rfl) (fun r4 _ => ?_)
    refine rhF.if_ne (pc := 14) 19 dX12_where_14 (by decide) (fun h5 => ?_) (fun h5 => ?_)
    · refine rhF.iconst (pc := 17) (v := (-1)) dX12_where_17 (by decide) ?_
      exact rhF.zret (pc := 18) dX12_where_18 rfl rfl rfl
    · refine rhF.aload_n (pc := 19) dX12_where_19 0 rfl ?_
      refine rhF.callV (pc := 20) (ci := 12) (embc := rhe1U _) [] dX12_where_20 ml_X12_467 mv_X12_layNow ⟨_, rfl, rfl⟩ h1 (c_X12_layNow _ _ _ _) (by decide) (by decide) rfl (Nat.le_of_ble_eq_true rfl) (fun r6 _ => ?_)
      refine rhF.iconst (pc := 23) (v := 0) dX12_where_23 (by decide) ?_
      refine rhF.istore_n (pc := 24) (L' := [(3, rhI _), (0, rhR _), (1, rhI _), (2, rhI _)]) dX12_where_24 (by decide) rfl ?_
      refine rhF.iconst (pc := 25) (v := 0) dX12_where_25 (by decide) ?_
      refine rhF.istore (pc := 26) (L' := [(4, rhI _), (3, rhI _), (0, rhR _), (1, rhI _), (2, rhI _)]) dX12_where_26 (by decide) rfl ?_
      refine rhF.sub [2, 3, 4, 1, 0] rfl ?_
      exact (b_X12_where_28 (b_X12_where_45 (b_X12_where_62) rhFU) rhFU) _ _ _ _ _ _
theorem c_X12_where (E : rhE) (Γ : rhG) (M : rhM) (v0 : Nat) (v1 : Int32) (v2 : Int32) : ∀ a, f_X12_where Γ M v0 v1 v2 = some a → rhC E 6 yX12_where cX12_where 5 (some .int) [rhR v0, rhI v1, rhI v2] Γ M ((rhe1I Γ) a) := rhF.met (by decide +kernel) (Nat.le_of_ble_eq_true rfl) (b_X12_where M v0 v1 v2)
def f_X12_worth (Γ : rhG) (M : rhM) (v0 : Nat) : Option (Int32 × rhM) :=
  rhck (Γ.2.2.1 v0 = 13) <|
  (f_X12_layNow Γ M v0).bind fun r2 =>
  (f_X12_worthOfRow Γ r2 v0).bind fun r3 =>
  some ((r3, r2))
set_option maxHeartbeats 4000000 in
set_option maxRecDepth 100000 in
theorem b_X12_worth {E : rhE} {Γ : rhG} : ∀ (M : rhM) (v0 : Nat), rhF E 6 1 yX12_worth cX12_worth (some .int) Γ (rhe1I Γ) (f_X12_worth Γ M v0) 0 [(0, rhR v0)] [] Γ M := by
  intro M v0
  rw [f_X12_worth]
  refine rhF.aload_n (pc := 0) dX12_worth_0 0 rfl ?_
  refine rhF.ck (fun h1 => ?_)
  refine rhF.callV (pc := 1) (ci := 12) (embc := rhe1U _) [] dX12_worth_1 ml_X12_467 mv_X12_layNow ⟨_, rfl, rfl⟩ h1 (c_X12_layNow _ _ _ _) (by decide) (by decide) rfl (Nat.le_of_ble_eq_true rfl) (fun r2 _ => ?_)
  refine rhF.aload_n (pc := 4) dX12_worth_4 0 rfl ?_
  refine rhF.callV (pc := 5) (ci := 12) (embc := rhe0I _ _) [] dX12_worth_5 ml_X12_478 mv_X12_worthOfRow ⟨_, rfl, rfl⟩ h1 (c_X12_worthOfRow _ _ _ _) (by decide) (by decide) rfl (Nat.le_of_ble_eq_true rfl) (fun r3 _ => ?_)
  exact rhF.zret (pc := 8) dX12_worth_8 rfl rfl rfl
theorem c_X12_worth (E : rhE) (Γ : rhG) (M : rhM) (v0 : Nat) : ∀ a, f_X12_worth Γ M v0 = some a → rhC E 6 yX12_worth cX12_worth 1 (some .int) [rhR v0] Γ M ((rhe1I Γ) a) := rhF.met (by decide +kernel) (Nat.le_of_ble_eq_true rfl) (b_X12_worth M v0)
