def f_X12_lawful (Γ : rhG) (M : rhM) (v0 : Nat) (v1 : Int32) (v2 : Int32) (v3 : Int32) : Option (Int32 × rhM) :=
  rhck (Γ.2.2.1 v0 = 13) <|
  (f_X12_layNow Γ M v0).bind fun r2 =>
  (f_X12_isLawful Γ r2 v0 v1 v2 v3).bind fun r3 =>
  if r3.1 = 0 then
    (some ((0, r3.2)))
  else
    some ((1, r3.2))
set_option maxHeartbeats 4000000 in
set_option maxRecDepth 100000 in
theorem b_X12_lawful {E : rhE} {Γ : rhG} : ∀ (M : rhM) (v0 : Nat) (v1 : Int32) (v2 : Int32) (v3 : Int32), rhF E 9 4 yX12_lawful cX12_lawful (some .int) Γ (rhe1I Γ) (f_X12_lawful Γ M v0 v1 v2 v3) 0 [(0, rhR v0), (1, rhI v1), (2, rhI v2), (3, rhI v3)] [] Γ M := by
  intro M v0 v1 v2 v3
  rw [f_X12_lawful]
  refine rhF.aload_n (pc := 0) dX12_lawful_0 0 rfl ?_
  refine rhF.ck (fun h1 => ?_)
  refine rhF.callV (pc := 1) (ci := 12) (embc := rhe1U _) [] dX12_lawful_1 ml_X12_467 mv_X12_layNow ⟨_, rfl, rfl⟩ h1 (c_X12_layNow _ _ _ _) (by decide) (by decide) rfl (Nat.le_of_ble_eq_true rfl) (fun r2 _ => ?_)
  refine rhF.aload_n (pc := 4) dX12_lawful_4 0 rfl ?_
  refine rhF.iload_n (pc := 5) dX12_lawful_5 1 rfl ?_
  refine rhF.iload_n (pc := 6) dX12_lawful_6 2 rfl ?_
  refine rhF.iload_n (pc := 7) dX12_lawful_7 3 rfl ?_
  refine rhF.callV (pc := 8) (ci := 12) (embc := rhe1I _) [rhI _, rhI _, rhI _] dX12_lawful_8 ml_X12_471 mv_X12_isLawful ⟨_, rfl, rfl⟩ h1 (c_X12_isLawful _ _ _ _ _ _ _) (by decide) (by decide) rfl (Nat.le_of_ble_eq_true rfl) (fun r3 _ => ?_)
  refine rhF.if_eq (pc := 11) 18 dX12_lawful_11 (by decide) (fun h4 => ?_) (fun h4 => ?_)
  · refine rhF.iconst (pc := 18) (v := 0) dX12_lawful_18 (by decide) ?_
    exact rhF.zret (pc := 19) dX12_lawful_19 rfl rfl rfl
  · refine rhF.iconst (pc := 14) (v := 1) dX12_lawful_14 (by decide) ?_
    refine rhF.goto (pc := 15) 19 dX12_lawful_15 (by decide) ?_
    exact rhF.zret (pc := 19) dX12_lawful_19 rfl rfl rfl
theorem c_X12_lawful (E : rhE) (Γ : rhG) (M : rhM) (v0 : Nat) (v1 : Int32) (v2 : Int32) (v3 : Int32) : ∀ a, f_X12_lawful Γ M v0 v1 v2 v3 = some a → rhC E 9 yX12_lawful cX12_lawful 4 (some .int) [rhR v0, rhI v1, rhI v2, rhI v3] Γ M ((rhe1I Γ) a) := rhF.met (by decide +kernel) (Nat.le_of_ble_eq_true rfl) (b_X12_lawful M v0 v1 v2 v3)
def f_X12_nextTight_164 (k51 : rhM → Nat → Int32 → Int32 → Int32 → Int32 → Option (Int32 × rhM)) (Γ : rhG) (M : rhM) (v0 : Nat) (v1 : Int32) (v2 : Int32) (v3 : Int32) (v4 : Int32) : Option (Int32 × rhM) :=
  let x18 : Int32 := v4 + 1
  k51 M v0 v1 v2 v3 x18
def f_X12_nextTight_51 (k151 : rhM → Int32 → Int32 → Int32 → Option (Int32 × rhM)) (k170 : rhM → Nat → Int32 → Int32 → Int32 → Option (Int32 × rhM)) (Γ : rhG) : Nat → rhM → Nat → Int32 → Int32 → Int32 → Int32 → Option (Int32 × rhM)
  | 0, _, _, _, _, _, _ => none
  | n + 1, M, v0, v1, v2, v3, v4 =>
    rhck (Γ.2.2.1 v0 = 13) <|
    (f_X12_railMany Γ M v0).bind fun r13 =>
    if v4 < r13 then
      ((f_X12_layAt Γ M v0).bind fun r15 =>
      (f_X12_isLawful Γ r15 v0 v2 v3 v4).bind fun r16 =>
      if r16.1 = 0 then
        (f_X12_nextTight_164 (f_X12_nextTight_51 k151 k170 Γ n) Γ r16.2 v0 v1 v2 v3 v4)
      else
        (f_X12_sumOf Γ r16.2 v0 (r16.2.2.2 v0 20) v2 v3).bind fun r19 =>
        (f_X12_moves Γ r16.2 v0 v2 v3 v4).bind fun r20 =>
        (f_X12_stateOf Γ r20 v0).bind fun r21 =>
        rhck (Γ.2.2.1 (r20.2.2 v0 59) = 17) <|
        rhck (0 ≤ (r21).toInt ∧ (r21).toInt < (Γ.2.2.2 (r20.2.2 v0 59) : Nat)) <|
        if (r20.1 (r20.2.2 v0 59) r21.toNatClampNeg) = 0 then
          (f_X12_nextTight_164 (f_X12_nextTight_51 k151 k170 Γ n) Γ r20 v0 v1 v2 v3 v4)
        else
          rhck (Γ.2.2.1 (r20.2.2 v0 57) = 15) <|
          rhck (0 ≤ (r21).toInt ∧ (r21).toInt < (Γ.2.2.2 (r20.2.2 v0 57) : Nat)) <|
          rhck (0 ≤ (v1).toInt ∧ (v1).toInt < (Γ.2.2.2 (r20.2.2 v0 57) : Nat)) <|
          if (r20.1 (r20.2.2 v0 57) r21.toNatClampNeg) = ((r20.1 (r20.2.2 v0 57) v1.toNatClampNeg) + r19) then
            (rhck (Γ.2.2.1 (r20.2.2 v0 56) = 15) <|
            rhck (0 ≤ (r21).toInt ∧ (r21).toInt < (Γ.2.2.2 (r20.2.2 v0 56) : Nat)) <|
            rhck (0 ≤ (v1).toInt ∧ (v1).toInt < (Γ.2.2.2 (r20.2.2 v0 56) : Nat)) <|
            if (r20.1 (r20.2.2 v0 56) r21.toNatClampNeg) = ((r20.1 (r20.2.2 v0 56) v1.toNatClampNeg) + 1) then
              (k151 r20 v2 v3 v4)
            else
              f_X12_nextTight_164 (f_X12_nextTight_51 k151 k170 Γ n) Γ r20 v0 v1 v2 v3 v4)
          else
            f_X12_nextTight_164 (f_X12_nextTight_51 k151 k170 Γ n) Γ r20 v0 v1 v2 v3 v4)
    else
      k170 M v0 v1 v2 v3
def f_X12_nextTight_170 (k21 : rhM → Nat → Int32 → Int32 → Int32 → Option (Int32 × rhM)) (Γ : rhG) (M : rhM) (v0 : Nat) (v1 : Int32) (v2 : Int32) (v3 : Int32) : Option (Int32 × rhM) :=
  let x33 : Int32 := v3 + 1
  k21 M v0 v1 v2 x33
def f_X12_nextTight_44 (k21 : rhM → Nat → Int32 → Int32 → Int32 → Option (Int32 × rhM)) (k151 : rhM → Int32 → Int32 → Int32 → Option (Int32 × rhM)) (k176 : rhM → Nat → Int32 → Int32 → Option (Int32 × rhM)) (Γ : rhG) (M : rhM) (v0 : Nat) (v1 : Int32) (v2 : Int32) (v3 : Int32) (s0 : Int32) (s1 : Int32) (s2 : Int32) : Option (Int32 × rhM) :=
  if (s1 - s2) < s0 then
    (k176 M v0 v1 v2)
  else
    f_X12_nextTight_51 k151 (f_X12_nextTight_170 k21 Γ) Γ rhFU M v0 v1 v2 v3 0
def f_X12_nextTight_21 (k151 : rhM → Int32 → Int32 → Int32 → Option (Int32 × rhM)) (k176 : rhM → Nat → Int32 → Int32 → Option (Int32 × rhM)) (Γ : rhG) : Nat → rhM → Nat → Int32 → Int32 → Int32 → Option (Int32 × rhM)
  | 0, _, _, _, _, _ => none
  | n + 1, M, v0, v1, v2, v3 =>
    rhck (Γ.2.2.1 v0 = 13) <|
    rhck (Γ.2.2.1 (M.2.2 v0 64) = 15) <|
    rhck (0 ≤ (v2).toInt ∧ (v2).toInt < (Γ.2.2.2 (M.2.2 v0 64) : Nat)) <|
    if v2 = 0 then
      (f_X12_nextTight_44 (f_X12_nextTight_21 k151 k176 Γ n) k151 k176 Γ M v0 v1 v2 v3 v3 (M.1 (M.2.2 v0 64) v2.toNatClampNeg) 0)
    else
      rhck (0 ≤ (v2 - 1).toInt ∧ (v2 - 1).toInt < (Γ.2.2.2 (M.2.2 v0 64) : Nat)) <|
      f_X12_nextTight_44 (f_X12_nextTight_21 k151 k176 Γ n) k151 k176 Γ M v0 v1 v2 v3 v3 (M.1 (M.2.2 v0 64) v2.toNatClampNeg) (M.1 (M.2.2 v0 64) (v2 - 1).toNatClampNeg)
def f_X12_nextTight_176 (k11 : rhM → Nat → Int32 → Int32 → Option (Int32 × rhM)) (Γ : rhG) (M : rhM) (v0 : Nat) (v1 : Int32) (v2 : Int32) : Option (Int32 × rhM) :=
  let x35 : Int32 := v2 + 1
  k11 M v0 v1 x35
def f_X12_nextTight_11 (k151 : rhM → Int32 → Int32 → Int32 → Option (Int32 × rhM)) (Γ : rhG) : Nat → rhM → Nat → Int32 → Int32 → Option (Int32 × rhM)
  | 0, _, _, _, _ => none
  | n + 1, M, v0, v1, v2 =>
    rhck (Γ.2.2.1 v0 = 13) <|
    (f_X12_railMany Γ M v0).bind fun r5 =>
    if v2 < r5 then
      (f_X12_nextTight_21 k151 (f_X12_nextTight_176 (f_X12_nextTight_11 k151 Γ n) Γ) Γ rhFU M v0 v1 v2 1)
    else
      some (((-1), M))
def f_X12_nextTight_151 (Γ : rhG) (M : rhM) (v2 : Int32) (v3 : Int32) (v4 : Int32) : Option (Int32 × rhM) :=
  some ((((100 * v2) + (10 * v3)) + v4, M))
def f_X12_nextTight (Γ : rhG) (M : rhM) (v0 : Nat) (v1 : Int32) : Option (Int32 × rhM) :=
  rhck (Γ.2.2.1 v0 = 13) <|
  (f_X12_layState Γ M v0 v1).bind fun r2 =>
  (f_X12_keepAt Γ r2 v0).bind fun r3 =>
  f_X12_nextTight_11 (f_X12_nextTight_151 Γ) Γ rhFU r3 v0 v1 0
set_option maxHeartbeats 4000000 in
set_option maxRecDepth 100000 in
theorem b_X12_nextTight_164 {E : rhE} {Γ : rhG} {k51 : rhM → Nat → Int32 → Int32 → Int32 → Int32 → Option (Int32 × rhM)} (hk51 : ∀ (M : rhM) (v0 : Nat) (v1 : Int32) (v2 : Int32) (v3 : Int32) (v4 : Int32), rhF E 9 7 yX12_nextTight cX12_nextTight (some .int) Γ (rhe1I Γ) (k51 M v0 v1 v2 v3 v4) 51 [(0, rhR v0), (1, rhI v1), (2, rhI v2), (3, rhI v3), (4, rhI v4)] [] Γ M) : ∀ (M : rhM) (v0 : Nat) (v1 : Int32) (v2 : Int32) (v3 : Int32) (v4 : Int32), rhF E 9 7 yX12_nextTight cX12_nextTight (some .int) Γ (rhe1I Γ) (f_X12_nextTight_164 k51 Γ M v0 v1 v2 v3 v4) 164 [(0, rhR v0), (1, rhI v1), (2, rhI v2), (3, rhI v3), (4, rhI v4)] [] Γ M := by
  intro M v0 v1 v2 v3 v4
  rw [f_X12_nextTight_164]
  refine rhF.iinc (pc := 164) (L' := [(4, rhI _), (0, rhR _), (1, rhI _), (2, rhI _), (3, rhI _)]) dX12_nextTight_164 4 rfl rfl (by decide) rfl ?_
  refine rhF.goto (pc := 167) 51 dX12_nextTight_167 (by decide) ?_
  refine rhF.sub [1, 2, 3, 4, 0] rfl ?_
  exact hk51 _ _ _ _ _ _
set_option maxHeartbeats 4000000 in
set_option maxRecDepth 100000 in
theorem b_X12_nextTight_51 {E : rhE} {Γ : rhG} {k151 : rhM → Int32 → Int32 → Int32 → Option (Int32 × rhM)} {k170 : rhM → Nat → Int32 → Int32 → Int32 → Option (Int32 × rhM)} (hk151 : ∀ (M : rhM) (v2 : Int32) (v3 : Int32) (v4 : Int32), rhF E 9 7 yX12_nextTight cX12_nextTight (some .int) Γ (rhe1I Γ) (k151 M v2 v3 v4) 151 [(2, rhI v2), (3, rhI v3), (4, rhI v4)] [] Γ M) (hk170 : ∀ (M : rhM) (v0 : Nat) (v1 : Int32) (v2 : Int32) (v3 : Int32), rhF E 9 7 yX12_nextTight cX12_nextTight (some .int) Γ (rhe1I Γ) (k170 M v0 v1 v2 v3) 170 [(0, rhR v0), (1, rhI v1), (2, rhI v2), (3, rhI v3)] [] Γ M) : ∀ (n : Nat) (M : rhM) (v0 : Nat) (v1 : Int32) (v2 : Int32) (v3 : Int32) (v4 : Int32), rhF E 9 7 yX12_nextTight cX12_nextTight (some .int) Γ (rhe1I Γ) (f_X12_nextTight_51 k151 k170 Γ n M v0 v1 v2 v3 v4) 51 [(0, rhR v0), (1, rhI v1), (2, rhI v2), (3, rhI v3), (4, rhI v4)] [] Γ M := by
  intro n
  induction n with
  | zero => intro M v0 v1 v2 v3 v4; rw [f_X12_nextTight_51]; exact rhF.nope
  | succ n ih =>
    intro M v0 v1 v2 v3 v4
    rw [f_X12_nextTight_51]
    refine rhF.iload (pc := 51) dX12_nextTight_51 4 rfl ?_
    refine rhF.aload_n (pc := 53) dX12_nextTight_53 0 rfl ?_
    refine rhF.ck (fun h12 => ?_)
    refine rhF.callV (pc := 54) (ci := 12) (embc := rhe0I _ _) [] dX12_nextTight_54 ml_X12_412 mv_X12_railMany ⟨_, rfl, rfl⟩ h12 (c_X12_railMany _ _ _ _) (by decide) (by decide) rfl (Nat.le_of_ble_eq_true rfl) (fun r13 _ => ?_)
    refine rhF.icmp_ge (pc := 57) 170 dX12_nextTight_57 (by decide) (fun h14 => ?_) (fun h14 => ?_)
    · refine rhF.aload_n (pc := 60) dX12_nextTight_60 0 rfl ?_
      refine rhF.callV (pc := 61) (ci := 12) (embc := rhe1U _) [] dX12_nextTight_61 ml_X12_512 mv_X12_layAt ⟨_, rfl, rfl⟩ h12 (c_X12_layAt _ _ _ _) (by decide) (by decide) rfl (Nat.le_of_ble_eq_true rfl) (fun r15 _ => ?_)
      refine rhF.aload_n (pc := 64) dX12_nextTight_64 0 rfl ?_
      refine rhF.iload_n (pc := 65) dX12_nextTight_65 2 rfl ?_
      refine rhF.iload_n (pc := 66) dX12_nextTight_66 3 rfl ?_
      refine rhF.iload (pc := 67) dX12_nextTight_67 4 rfl ?_
      refine rhF.callV (pc := 69) (ci := 12) (embc := rhe1I _) [rhI _, rhI _, rhI _] dX12_nextTight_69 ml_X12_471 mv_X12_isLawful ⟨_, rfl, rfl⟩ h12 (c_X12_isLawful _ _ _ _ _ _ _) (by decide) (by decide) rfl (Nat.le_of_ble_eq_true rfl) (fun r16 _ => ?_)
      refine rhF.if_ne (pc := 72) 78 dX12_nextTight_72 (by decide) (fun h17 => ?_) (fun h17 => ?_)
      · refine rhF.goto (pc := 75) 164 dX12_nextTight_75 (by decide) ?_
        exact (b_X12_nextTight_164 ih) _ _ _ _ _ _
      · refine rhF.aload_n (pc := 78) dX12_nextTight_78 0 rfl ?_
        refine rhF.aload_n (pc := 79) dX12_nextTight_79 0 rfl ?_
        refine rhF.get (pc := 80) (rhR _) dX12_nextTight_80 fl_X12_48 h12 rfl ?_
        refine rhF.iload_n (pc := 83) dX12_nextTight_83 2 rfl ?_
        refine rhF.iload_n (pc := 84) dX12_nextTight_84 3 rfl ?_
        refine rhF.callV (pc := 85) (ci := 12) (embc := rhe0I _ _) [rhR _, rhI _, rhI _] dX12_nextTight_85 ml_X12_431 mv_X12_sumOf ⟨_, rfl, rfl⟩ h12 (c_X12_sumOf _ _ _ _ _ _ _) (by decide) (by decide) rfl (Nat.le_of_ble_eq_true rfl) (fun r19 _ => ?_)
        refine rhF.istore (pc := 88) (L' := [(5, rhI _), (0, rhR _), (1, rhI _), (2, rhI _), (3, rhI _), (4, rhI _)]) dX12_nextTight_88 (by decide) rfl ?_
        refine rhF.aload_n (pc := 90) dX12_nextTight_90 1 rfl ?_
        refine rhF.iload_n (pc := 91) dX12_nextTight_91 3 rfl ?_
        refine rhF.iload_n (pc := 92) dX12_nextTight_92 4 rfl ?_
        refine rhF.iload (pc := 93) dX12_nextTight_93 5 rfl ?_
        refine rhF.callV (pc := 95) (ci := 12) (embc := rhe1U _) [rhI _, rhI _, rhI _] dX12_nextTight_95 ml_X12_474 mv_X12_moves ⟨_, rfl, rfl⟩ h12 (c_X12_moves _ _ _ _ _ _ _) (by decide) (by decide) rfl (Nat.le_of_ble_eq_true rfl) (fun r20 _ => ?_)
        refine rhF.aload_n (pc := 98) dX12_nextTight_98 1 rfl ?_
        refine rhF.callV (pc := 99) (ci := 12) (embc := rhe0I _ _) [] dX12_nextTight_99 ml_X12_490 mv_X12_stateOf ⟨_, rfl, rfl⟩ h12 (c_X12_stateOf _ _ _ _) (by decide) (by decide) rfl (Nat.le_of_ble_eq_true rfl) (fun r21 _ => ?_)
        refine rhF.istore (pc := 102) (L' := [(6, rhI _), (5, rhI _), (0, rhR _), (1, rhI _), (2, rhI _), (3, rhI _), (4, rhI _)]) dX12_nextTight_102 (by decide) rfl ?_
        refine rhF.aload_n (pc := 104) dX12_nextTight_104 2 rfl ?_
        refine rhF.get (pc := 105) (rhR _) dX12_nextTight_105 fl_X12_139 h12 rfl ?_
        refine rhF.iload (pc := 108) dX12_nextTight_108 0 rfl ?_
        refine rhF.ck (fun h22 => ?_)
        refine rhF.ck (fun h23 => ?_)
        refine rhF.zald (pc := 110) dX12_nextTight_110 h22 h23 ?_
        refine rhF.if_eq (pc := 111) 164 dX12_nextTight_111 (by decide) (fun h24 => ?_) (fun h24 => ?_)
        · refine rhF.sub [2, 3, 4, 5, 6] rfl ?_
          exact (b_X12_nextTight_164 ih) _ _ _ _ _ _
        · refine rhF.aload_n (pc := 114) dX12_nextTight_114 2 rfl ?_
          refine rhF.get (pc := 115) (rhR _) dX12_nextTight_115 fl_X12_132 h12 rfl ?_
          refine rhF.iload (pc := 118) dX12_nextTight_118 0 rfl ?_
          refine rhF.ck (fun h25 => ?_)
          refine rhF.ck (fun h26 => ?_)
          refine rhF.iald (pc := 120) dX12_nextTight_120 h25 h26 ?_
          refine rhF.aload_n (pc := 121) dX12_nextTight_121 2 rfl ?_
          refine rhF.get (pc := 122) (rhR _) dX12_nextTight_122 fl_X12_132 h12 rfl ?_
          refine rhF.iload_n (pc := 125) dX12_nextTight_125 3 rfl ?_
          refine rhF.ck (fun h27 => ?_)
          refine rhF.iald (pc := 126) dX12_nextTight_126 h25 h27 ?_
          refine rhF.iload (pc := 127) dX12_nextTight_127 1 rfl ?_
          refine rhF.iadd (pc := 129) dX12_nextTight_129 ?_
          refine rhF.icmp_ne (pc := 130) 164 dX12_nextTight_130 (by decide) (fun h28 => ?_) (fun h28 => ?_)
          · refine rhF.aload_n (pc := 133) dX12_nextTight_133 2 rfl ?_
            refine rhF.get (pc := 134) (rhR _) dX12_nextTight_134 fl_X12_129 h12 rfl ?_
            refine rhF.iload (pc := 137) dX12_nextTight_137 0 rfl ?_
            refine rhF.ck (fun h29 => ?_)
            refine rhF.ck (fun h30 => ?_)
            refine rhF.iald (pc := 139) dX12_nextTight_139 h29 h30 ?_
            refine rhF.aload_n (pc := 140) dX12_nextTight_140 2 rfl ?_
            refine rhF.get (pc := 141) (rhR _) dX12_nextTight_141 fl_X12_129 h12 rfl ?_
            refine rhF.iload_n (pc := 144) dX12_nextTight_144 3 rfl ?_
            refine rhF.ck (fun h31 => ?_)
            refine rhF.iald (pc := 145) dX12_nextTight_145 h29 h31 ?_
            refine rhF.iconst (pc := 146) (v := 1) dX12_nextTight_146 (by decide) ?_
            refine rhF.iadd (pc := 147) dX12_nextTight_147 ?_
            refine rhF.icmp_ne (pc := 148) 164 dX12_nextTight_148 (by decide) (fun h32 => ?_) (fun h32 => ?_)
            · refine rhF.sub [4, 5, 6] rfl ?_
              exact hk151 _ _ _ _
            · refine rhF.sub [2, 3, 4, 5, 6] rfl ?_
              exact (b_X12_nextTight_164 ih) _ _ _ _ _ _
          · refine rhF.sub [2, 3, 4, 5, 6] rfl ?_
            exact (b_X12_nextTight_164 ih) _ _ _ _ _ _
    · refine rhF.sub [0, 1, 2, 3] rfl ?_
      exact hk170 _ _ _ _ _
set_option maxHeartbeats 4000000 in
set_option maxRecDepth 100000 in
theorem b_X12_nextTight_170 {E : rhE} {Γ : rhG} {k21 : rhM → Nat → Int32 → Int32 → Int32 → Option (Int32 × rhM)} (hk21 : ∀ (M : rhM) (v0 : Nat) (v1 : Int32) (v2 : Int32) (v3 : Int32), rhF E 9 7 yX12_nextTight cX12_nextTight (some .int) Γ (rhe1I Γ) (k21 M v0 v1 v2 v3) 21 [(0, rhR v0), (1, rhI v1), (2, rhI v2), (3, rhI v3)] [] Γ M) : ∀ (M : rhM) (v0 : Nat) (v1 : Int32) (v2 : Int32) (v3 : Int32), rhF E 9 7 yX12_nextTight cX12_nextTight (some .int) Γ (rhe1I Γ) (f_X12_nextTight_170 k21 Γ M v0 v1 v2 v3) 170 [(0, rhR v0), (1, rhI v1), (2, rhI v2), (3, rhI v3)] [] Γ M := by
  intro M v0 v1 v2 v3
  rw [f_X12_nextTight_170]
  refine rhF.iinc (pc := 170) (L' := [(3, rhI _), (0, rhR _), (1, rhI _), (2, rhI _)]) dX12_nextTight_170 3 rfl rfl (by decide) rfl ?_
  refine rhF.goto (pc := 173) 21 dX12_nextTight_173 (by decide) ?_
  refine rhF.sub [1, 2, 3, 0] rfl ?_
  exact hk21 _ _ _ _ _
set_option maxHeartbeats 4000000 in
set_option maxRecDepth 100000 in
theorem b_X12_nextTight_44 {E : rhE} {Γ : rhG} {k21 : rhM → Nat → Int32 → Int32 → Int32 → Option (Int32 × rhM)} {k151 : rhM → Int32 → Int32 → Int32 → Option (Int32 × rhM)} {k176 : rhM → Nat → Int32 → Int32 → Option (Int32 × rhM)} (hk21 : ∀ (M : rhM) (v0 : Nat) (v1 : Int32) (v2 : Int32) (v3 : Int32), rhF E 9 7 yX12_nextTight cX12_nextTight (some .int) Γ (rhe1I Γ) (k21 M v0 v1 v2 v3) 21 [(0, rhR v0), (1, rhI v1), (2, rhI v2), (3, rhI v3)] [] Γ M) (hk151 : ∀ (M : rhM) (v2 : Int32) (v3 : Int32) (v4 : Int32), rhF E 9 7 yX12_nextTight cX12_nextTight (some .int) Γ (rhe1I Γ) (k151 M v2 v3 v4) 151 [(2, rhI v2), (3, rhI v3), (4, rhI v4)] [] Γ M) (hk176 : ∀ (M : rhM) (v0 : Nat) (v1 : Int32) (v2 : Int32), rhF E 9 7 yX12_nextTight cX12_nextTight (some .int) Γ (rhe1I Γ) (k176 M v0 v1 v2) 176 [(0, rhR v0), (1, rhI v1), (2, rhI v2)] [] Γ M) : ∀ (M : rhM) (v0 : Nat) (v1 : Int32) (v2 : Int32) (v3 : Int32) (s0 : Int32) (s1 : Int32) (s2 : Int32), rhF E 9 7 yX12_nextTight cX12_nextTight (some .int) Γ (rhe1I Γ) (f_X12_nextTight_44 k21 k151 k176 Γ M v0 v1 v2 v3 s0 s1 s2) 44 [(0, rhR v0), (1, rhI v1), (2, rhI v2), (3, rhI v3)] [rhI s2, rhI s1, rhI s0] Γ M := by
  intro M v0 v1 v2 v3 s0 s1 s2
  rw [f_X12_nextTight_44]
  refine rhF.isub (pc := 44) dX12_nextTight_44 ?_
  refine rhF.icmp_gt (pc := 45) 176 dX12_nextTight_45 (by decide) (fun h11 => ?_) (fun h11 => ?_)
  · refine rhF.sub [0, 1, 2] rfl ?_
    exact hk176 _ _ _ _
  · refine rhF.iconst (pc := 48) (v := 0) dX12_nextTight_48 (by decide) ?_
    refine rhF.istore (pc := 49) (L' := [(4, rhI _), (0, rhR _), (1, rhI _), (2, rhI _), (3, rhI _)]) dX12_nextTight_49 (by decide) rfl ?_
    refine rhF.sub [1, 2, 3, 4, 0] rfl ?_
    exact (b_X12_nextTight_51 hk151 (b_X12_nextTight_170 hk21) rhFU) _ _ _ _ _ _
set_option maxHeartbeats 4000000 in
set_option maxRecDepth 100000 in
theorem b_X12_nextTight_21 {E : rhE} {Γ : rhG} {k151 : rhM → Int32 → Int32 → Int32 → Option (Int32 × rhM)} {k176 : rhM → Nat → Int32 → Int32 → Option (Int32 × rhM)} (hk151 : ∀ (M : rhM) (v2 : Int32) (v3 : Int32) (v4 : Int32), rhF E 9 7 yX12_nextTight cX12_nextTight (some .int) Γ (rhe1I Γ) (k151 M v2 v3 v4) 151 [(2, rhI v2), (3, rhI v3), (4, rhI v4)] [] Γ M) (hk176 : ∀ (M : rhM) (v0 : Nat) (v1 : Int32) (v2 : Int32), rhF E 9 7 yX12_nextTight cX12_nextTight (some .int) Γ (rhe1I Γ) (k176 M v0 v1 v2) 176 [(0, rhR v0), (1, rhI v1), (2, rhI v2)] [] Γ M) : ∀ (n : Nat) (M : rhM) (v0 : Nat) (v1 : Int32) (v2 : Int32) (v3 : Int32), rhF E 9 7 yX12_nextTight cX12_nextTight (some .int) Γ (rhe1I Γ) (f_X12_nextTight_21 k151 k176 Γ n M v0 v1 v2 v3) 21 [(0, rhR v0), (1, rhI v1), (2, rhI v2), (3, rhI v3)] [] Γ M := by
  intro n
  induction n with
  | zero => intro M v0 v1 v2 v3; rw [f_X12_nextTight_21]; exact rhF.nope
  | succ n ih =>
    intro M v0 v1 v2 v3
    rw [f_X12_nextTight_21]
    refine rhF.iload_n (pc := 21) dX12_nextTight_21 3 rfl ?_
    refine rhF.aload_n (pc := 22) dX12_nextTight_22 0 rfl ?_
    refine rhF.ck (fun h7 => ?_)
    refine rhF.get (pc := 23) (rhR _) dX12_nextTight_23 fl_X12_145 h7 rfl ?_
    refine rhF.iload_n (pc := 26) dX12_nextTight_26 2 rfl ?_
    refine rhF.ck (fun h8 => ?_)
    refine rhF.ck (fun h9 => ?_)
    refine rhF.iald (pc := 27) dX12_nextTight_27 h8 h9 ?_
    refine rhF.iload_n (pc := 28) dX12_nextTight_28 2 rfl ?_
    refine rhF.if_ne (pc := 29) 36 dX12_nextTight_29 (by decide) (fun h10 => ?_) (fun h10 => ?_)
    · refine rhF.iconst (pc := 32) (v := 0) dX12_nextTight_32 (by decide) ?_
      refine rhF.goto (pc := 33) 44 dX12_nextTight_33 (by decide) ?_
      exact (b_X12_nextTight_44 ih hk151 hk176) _ _ _ _ _ _ _ _
    · refine rhF.aload_n (pc := 36) dX12_nextTight_36 0 rfl ?_
      refine rhF.get (pc := 37) (rhR _) dX12_nextTight_37 fl_X12_145 h7 rfl ?_
      refine rhF.iload_n (pc := 40) dX12_nextTight_40 2 rfl ?_
      refine rhF.iconst (pc := 41) (v := 1) dX12_nextTight_41 (by decide) ?_
      refine rhF.isub (pc := 42) dX12_nextTight_42 ?_
      refine rhF.ck (fun h34 => ?_)
      refine rhF.iald (pc := 43) dX12_nextTight_43 h8 h34 ?_
      exact (b_X12_nextTight_44 ih hk151 hk176) _ _ _ _ _ _ _ _
set_option maxHeartbeats 4000000 in
set_option maxRecDepth 100000 in
theorem b_X12_nextTight_176 {E : rhE} {Γ : rhG} {k11 : rhM → Nat → Int32 → Int32 → Option (Int32 × rhM)} (hk11 : ∀ (M : rhM) (v0 : Nat) (v1 : Int32) (v2 : Int32), rhF E 9 7 yX12_nextTight cX12_nextTight (some .int) Γ (rhe1I Γ) (k11 M v0 v1 v2) 11 [(0, rhR v0), (1, rhI v1), (2, rhI v2)] [] Γ M) : ∀ (M : rhM) (v0 : Nat) (v1 : Int32) (v2 : Int32), rhF E 9 7 yX12_nextTight cX12_nextTight (some .int) Γ (rhe1I Γ) (f_X12_nextTight_176 k11 Γ M v0 v1 v2) 176 [(0, rhR v0), (1, rhI v1), (2, rhI v2)] [] Γ M := by
  intro M v0 v1 v2
  rw [f_X12_nextTight_176]
  refine rhF.iinc (pc := 176) (L' := [(2, rhI _), (0, rhR _), (1, rhI _)]) dX12_nextTight_176 2 rfl rfl (by decide) rfl ?_
  refine rhF.goto (pc := 179) 11 dX12_nextTight_179 (by decide) ?_
  refine rhF.sub [1, 2, 0] rfl ?_
  exact hk11 _ _ _ _
set_option maxHeartbeats 4000000 in
set_option maxRecDepth 100000 in
theorem b_X12_nextTight_11 {E : rhE} {Γ : rhG} {k151 : rhM → Int32 → Int32 → Int32 → Option (Int32 × rhM)} (hk151 : ∀ (M : rhM) (v2 : Int32) (v3 : Int32) (v4 : Int32), rhF E 9 7 yX12_nextTight cX12_nextTight (some .int) Γ (rhe1I Γ) (k151 M v2 v3 v4) 151 [(2, rhI v2), (3, rhI v3), (4, rhI v4)] [] Γ M) : ∀ (n : Nat) (M : rhM) (v0 : Nat) (v1 : Int32) (v2 : Int32), rhF E 9 7 yX12_nextTight cX12_nextTight (some .int) Γ (rhe1I Γ) (f_X12_nextTight_11 k151 Γ n M v0 v1 v2) 11 [(0, rhR v0), (1, rhI v1), (2, rhI v2)] [] Γ M := by
  intro n
  induction n with
  | zero => intro M v0 v1 v2; rw [f_X12_nextTight_11]; exact rhF.nope
  | succ n ih =>
    intro M v0 v1 v2
    rw [f_X12_nextTight_11]
    refine rhF.iload_n (pc := 11) dX12_nextTight_11 2 rfl ?_
    refine rhF.aload_n (pc := 12) dX12_nextTight_12 0 rfl ?_
    refine rhF.ck (fun h4 => ?_)
    refine rhF.callV (pc := 13) (ci := 12) (embc := rhe0I _ _) [] dX12_nextTight_13 ml_X12_412 mv_X12_railMany ⟨_, rfl, rfl⟩ h4 (c_X12_railMany _ _ _ _) (by decide) (by decide) rfl (Nat.le_of_ble_eq_true rfl) (fun r5 _ => ?_)
    refine rhF.icmp_ge (pc := 16) 182 dX12_nextTight_16 (by decide) (fun h6 => ?_) (fun h6 => ?_)
    · refine rhF.iconst (pc := 19) (v := 1) dX12_nextTight_19 (by decide) ?_
      refine rhF.istore_n (pc := 20) (L' := [(3, rhI _), (0, rhR _), (1, rhI _), (2, rhI _)]) dX12_nextTight_20 (by decide) rfl ?_
      refine rhF.sub [1, 2, 3, 0] rfl ?_
      exact (b_X12_nextTight_21 hk151 (b_X12_nextTight_176 ih) rhFU) _ _ _ _ _
    · refine rhF.iconst (pc := 182) (v := (-1)) dX12_nextTight_182 (by decide) ?_
      exact rhF.zret (pc := 183) dX12_nextTight_183 rfl rfl rfl
set_option maxHeartbeats 4000000 in
set_option maxRecDepth 100000 in
theorem b_X12_nextTight_151 {E : rhE} {Γ : rhG} : ∀ (M : rhM) (v2 : Int32) (v3 : Int32) (v4 : Int32), rhF E 9 7 yX12_nextTight cX12_nextTight (some .int) Γ (rhe1I Γ) (f_X12_nextTight_151 Γ M v2 v3 v4) 151 [(2, rhI v2), (3, rhI v3), (4, rhI v4)] [] Γ M := by
  intro M v2 v3 v4
  rw [f_X12_nextTight_151]
  refine rhF.bipush (pc := 151) (v := 100) dX12_nextTight_151 (by decide) ?_
  refine rhF.iload_n (pc := 153) dX12_nextTight_153 0 rfl ?_
  refine rhF.imul (pc := 154) dX12_nextTight_154 ?_
  refine rhF.bipush (pc := 155) (v := 10) dX12_nextTight_155 (by decide) ?_
  refine rhF.iload_n (pc := 157) dX12_nextTight_157 1 rfl ?_
  refine rhF.imul (pc := 158) dX12_nextTight_158 ?_
  refine rhF.iadd (pc := 159) dX12_nextTight_159 ?_
  refine rhF.iload (pc := 160) dX12_nextTight_160 2 rfl ?_
  refine rhF.iadd (pc := 162) dX12_nextTight_162 ?_
  exact rhF.zret (pc := 163) dX12_nextTight_163 rfl rfl rfl
set_option maxHeartbeats 4000000 in
set_option maxRecDepth 100000 in
theorem b_X12_nextTight {E : rhE} {Γ : rhG} : ∀ (M : rhM) (v0 : Nat) (v1 : Int32), rhF E 9 7 yX12_nextTight cX12_nextTight (some .int) Γ (rhe1I Γ) (f_X12_nextTight Γ M v0 v1) 0 [(0, rhR v0), (1, rhI v1)] [] Γ M := by
  intro M v0 v1
  rw [f_X12_nextTight]
  refine rhF.aload_n (pc := 0) dX12_nextTight_0 0 rfl ?_
  refine rhF.iload_n (pc := 1) dX12_nextTight_1 1 rfl ?_
  refine rhF.ck (fun h1 => ?_)
  refine rhF.callV (pc := 2) (ci := 12) (embc := rhe1U _) [rhI _] dX12_nextTight_2 ml_X12_499 mv_X12_layState ⟨_, rfl, rfl⟩ h1 (c_X12_layState _ _ _ _ _) (by decide) (by decide) rfl (Nat.le_of_ble_eq_true rfl) (fun r2 _ => ?_)
  refine rhF.aload_n (pc := 5) dX12_nextTight_5 0 rfl ?_
  refine rhF.callV (pc := 6) (ci := 12) (embc := rhe1U _) [] dX12_nextTight_6 ml_X12_509 mv_X12_keepAt ⟨_, rfl, rfl⟩ h1 (c_X12_keepAt _ _ _ _) (by decide) (by decide) rfl (Nat.le_of_ble_eq_true rfl) (fun r3 _ => ?_)
  refine rhF.iconst (pc := 9) (v := 0) dX12_nextTight_9 (by decide) ?_
  refine rhF.istore_n (pc := 10) (L' := [(2, rhI _), (0, rhR _), (1, rhI _)]) dX12_nextTight_10 (by decide) rfl ?_
  refine rhF.sub [1, 2, 0] rfl ?_
  exact (b_X12_nextTight_11 (b_X12_nextTight_151) rhFU) _ _ _ _
theorem c_X12_nextTight (E : rhE) (Γ : rhG) (M : rhM) (v0 : Nat) (v1 : Int32) : ∀ a, f_X12_nextTight Γ M v0 v1 = some a → rhC E 9 yX12_nextTight cX12_nextTight 7 (some .int) [rhR v0, rhI v1] Γ M ((rhe1I Γ) a) := rhF.met (by decide +kernel) (Nat.le_of_ble_eq_true rfl) (b_X12_nextTight M v0 v1)
def f_X12_layLightest_46 (k11 : rhM → Nat → Int32 → Int32 → Option (rhM)) (Γ : rhG) (M : rhM) (v0 : Nat) (v1 : Int32) (v3 : Int32) (s0 : Int32) : Option (rhM) :=
  if s0 = 0 then
    (k11 M v0 v1 s0)
  else
    rhck (Γ.2.2.1 v0 = 13) <|
    rhck (Γ.2.2.1 (M.2.2 v0 65) = 15) <|
    rhck (0 ≤ (M.1 v0 66).toInt ∧ (M.1 v0 66).toInt < (Γ.2.2.2 (M.2.2 v0 65) : Nat)) <|
    let M15 := rhsi M (M.2.2 v0 65) (M.1 v0 66 : Int32).toNatClampNeg v3
    let M16 := rhsi M15 v0 66 ((M15.1 v0 66) + 1)
    (f_X12_stateOf Γ M16 v0).bind fun r17 =>
    k11 M16 v0 r17 s0
def f_X12_layLightest_36 (k11 : rhM → Nat → Int32 → Int32 → Option (rhM)) (Γ : rhG) (M : rhM) (v0 : Nat) (v1 : Int32) (s0 : Int32) : Option (rhM) :=
  if s0 < 0 then
    (f_X12_layLightest_46 k11 Γ M v0 v1 s0 0)
  else
    f_X12_layLightest_46 k11 Γ M v0 v1 s0 1
def f_X12_layLightest_11 (Γ : rhG) : Nat → rhM → Nat → Int32 → Int32 → Option (rhM)
  | 0, _, _, _, _ => none
  | n + 1, M, v0, v1, v2 =>
    if v2 = 0 then
      (some M)
    else
      rhck (Γ.2.2.1 v0 = 13) <|
      (f_X12_layState Γ M v0 v1).bind fun r6 =>
      (f_X12_isEnd Γ r6 v0).bind fun r7 =>
      if r7 = 0 then
        ((f_X12_nextTight Γ r6 v0 v1).bind fun r9 =>
        f_X12_layLightest_36 (f_X12_layLightest_11 Γ n) Γ r9.2 v0 v1 r9.1)
      else
        f_X12_layLightest_36 (f_X12_layLightest_11 Γ n) Γ r6 v0 v1 ((-1))
def f_X12_layLightest (Γ : rhG) (M : rhM) (v0 : Nat) : Option (rhM) :=
  rhck (Γ.2.2.1 v0 = 13) <|
  (f_X12_layNow Γ M v0).bind fun r2 =>
  (f_X12_stateOf Γ r2 v0).bind fun r3 =>
  f_X12_layLightest_11 Γ rhFU r2 v0 r3 1
set_option maxHeartbeats 4000000 in
set_option maxRecDepth 100000 in
theorem b_X12_layLightest_46 {E : rhE} {Γ : rhG} {k11 : rhM → Nat → Int32 → Int32 → Option (rhM)} (hk11 : ∀ (M : rhM) (v0 : Nat) (v1 : Int32) (v2 : Int32), rhF E 10 4 yX12_layLightest cX12_layLightest none Γ (rhe1U Γ) (k11 M v0 v1 v2) 11 [(0, rhR v0), (1, rhI v1), (2, rhI v2)] [] Γ M) : ∀ (M : rhM) (v0 : Nat) (v1 : Int32) (v3 : Int32) (s0 : Int32), rhF E 10 4 yX12_layLightest cX12_layLightest none Γ (rhe1U Γ) (f_X12_layLightest_46 k11 Γ M v0 v1 v3 s0) 46 [(0, rhR v0), (1, rhI v1), (3, rhI v3)] [rhI s0] Γ M := by
  intro M v0 v1 v3 s0
  rw [f_X12_layLightest_46]
  refine rhF.istore_n (pc := 46) (L' := [(2, rhI _), (0, rhR _), (1, rhI _), (3, rhI _)]) dX12_layLightest_46 (by decide) rfl ?_
  refine rhF.iload_n (pc := 47) dX12_layLightest_47 0 rfl ?_
  refine rhF.if_ne (pc := 48) 54 dX12_layLightest_48 (by decide) (fun h11 => ?_) (fun h11 => ?_)
  · refine rhF.goto (pc := 51) 11 dX12_layLightest_51 (by decide) ?_
    refine rhF.sub [1, 2, 0] rfl ?_
    exact hk11 _ _ _ _
  · refine rhF.aload_n (pc := 54) dX12_layLightest_54 1 rfl ?_
    refine rhF.ck (fun h12 => ?_)
    refine rhF.get (pc := 55) (rhR _) dX12_layLightest_55 fl_X12_148 h12 rfl ?_
    refine rhF.aload_n (pc := 58) dX12_layLightest_58 1 rfl ?_
    refine rhF.get (pc := 59) (rhI _) dX12_layLightest_59 fl_X12_342 h12 rfl ?_
    refine rhF.iload_n (pc := 62) dX12_layLightest_62 3 rfl ?_
    refine rhF.ck (fun h13 => ?_)
    refine rhF.ck (fun h14 => ?_)
    refine rhF.iast (pc := 63) dX12_layLightest_63 h13 h14 ?_
    refine rhF.aload_n (pc := 64) dX12_layLightest_64 1 rfl ?_
    refine rhF.dupr (pc := 65) dX12_layLightest_65 ?_
    refine rhF.get (pc := 66) (rhI _) dX12_layLightest_66 fl_X12_342 h12 rfl ?_
    refine rhF.iconst (pc := 69) (v := 1) dX12_layLightest_69 (by decide) ?_
    refine rhF.iadd (pc := 70) dX12_layLightest_70 ?_
    refine rhF.puti (pc := 71) dX12_layLightest_71 fl_X12_342 h12 (fun q hq => by cases hq; exact Or.inl rfl) ⟨rfl, rfl⟩ (fun _ => rfl) ?_
    refine rhF.aload_n (pc := 74) dX12_layLightest_74 1 rfl ?_
    refine rhF.callV (pc := 75) (ci := 12) (embc := rhe0I _ _) [] dX12_layLightest_75 ml_X12_490 mv_X12_stateOf ⟨_, rfl, rfl⟩ h12 (c_X12_stateOf _ _ _ _) (by decide) (by decide) rfl (Nat.le_of_ble_eq_true rfl) (fun r17 _ => ?_)
    refine rhF.istore_n (pc := 78) (L' := [(1, rhI _), (2, rhI _), (0, rhR _), (3, rhI _)]) dX12_layLightest_78 (by decide) rfl ?_
    refine rhF.goto (pc := 79) 11 dX12_layLightest_79 (by decide) ?_
    refine rhF.sub [2, 0, 1] rfl ?_
    exact hk11 _ _ _ _
set_option maxHeartbeats 4000000 in
set_option maxRecDepth 100000 in
theorem b_X12_layLightest_36 {E : rhE} {Γ : rhG} {k11 : rhM → Nat → Int32 → Int32 → Option (rhM)} (hk11 : ∀ (M : rhM) (v0 : Nat) (v1 : Int32) (v2 : Int32), rhF E 10 4 yX12_layLightest cX12_layLightest none Γ (rhe1U Γ) (k11 M v0 v1 v2) 11 [(0, rhR v0), (1, rhI v1), (2, rhI v2)] [] Γ M) : ∀ (M : rhM) (v0 : Nat) (v1 : Int32) (s0 : Int32), rhF E 10 4 yX12_layLightest cX12_layLightest none Γ (rhe1U Γ) (f_X12_layLightest_36 k11 Γ M v0 v1 s0) 36 [(0, rhR v0), (1, rhI v1)] [rhI s0] Γ M := by
  intro M v0 v1 s0
  rw [f_X12_layLightest_36]
  refine rhF.istore_n (pc := 36) (L' := [(3, rhI _), (0, rhR _), (1, rhI _)]) dX12_layLightest_36 (by decide) rfl ?_
  refine rhF.iload_n (pc := 37) dX12_layLightest_37 0 rfl ?_
  refine rhF.if_lt (pc := 38) 45 dX12_layLightest_38 (by decide) (fun h10 => ?_) (fun h10 => ?_)
  · refine rhF.iconst (pc := 45) (v := 0) dX12_layLightest_45 (by decide) ?_
    refine rhF.sub [1, 2, 0] rfl ?_
    exact (b_X12_layLightest_46 hk11) _ _ _ _ _
  · refine rhF.iconst (pc := 41) (v := 1) dX12_layLightest_41 (by decide) ?_
    refine rhF.goto (pc := 42) 46 dX12_layLightest_42 (by decide) ?_
    refine rhF.sub [1, 2, 0] rfl ?_
    exact (b_X12_layLightest_46 hk11) _ _ _ _ _
set_option maxHeartbeats 4000000 in
set_option maxRecDepth 100000 in
theorem b_X12_layLightest_11 {E : rhE} {Γ : rhG} : ∀ (n : Nat) (M : rhM) (v0 : Nat) (v1 : Int32) (v2 : Int32), rhF E 10 4 yX12_layLightest cX12_layLightest none Γ (rhe1U Γ) (f_X12_layLightest_11 Γ n M v0 v1 v2) 11 [(0, rhR v0), (1, rhI v1), (2, rhI v2)] [] Γ M := by
  intro n
  induction n with
  | zero => intro M v0 v1 v2; rw [f_X12_layLightest_11]; exact rhF.nope
  | succ n ih =>
    intro M v0 v1 v2
    rw [f_X12_layLightest_11]
    refine rhF.iload_n (pc := 11) dX12_layLightest_11 2 rfl ?_
    refine rhF.if_eq (pc := 12) 82 dX12_layLightest_12 (by decide) (fun h4 => ?_) (fun h4 => ?_)
    · exact rhF.vret (pc := 82) dX12_layLightest_82 rfl rfl
    · refine rhF.aload_n (pc := 15) dX12_layLightest_15 0 rfl ?_
      refine rhF.iload_n (pc := 16) dX12_layLightest_16 1 rfl ?_
      refine rhF.ck (fun h5 => ?_)
      refine rhF.callV (pc := 17) (ci := 12) (embc := rhe1U _) [rhI _] dX12_layLightest_17 ml_X12_499 mv_X12_layState ⟨_, rfl, rfl⟩ h5 (c_X12_layState _ _ _ _ _) (by decide) (by decide) rfl (Nat.le_of_ble_eq_true rfl) (fun r6 _ => ?_)
      refine rhF.aload_n (pc := 20) dX12_layLightest_20 0 rfl ?_
      refine rhF.callV (pc := 21) (ci := 12) (embc := rhe0I _ _) [] dX12_layLightest_21 ml_X12_503 mv_X12_isEnd ⟨_, rfl, rfl⟩ h5 (c_X12_isEnd _ _ _ _) (by decide) (by decide) rfl (Nat.le_of_ble_eq_true rfl) (fun r7 _ => ?_)
      refine rhF.if_eq (pc := 24) 31 dX12_layLightest_24 (by decide) (fun h8 => ?_) (fun h8 => ?_)
      · refine rhF.aload_n (pc := 31) dX12_layLightest_31 0 rfl ?_
        refine rhF.iload_n (pc := 32) dX12_layLightest_32 1 rfl ?_
        refine rhF.callV (pc := 33) (ci := 12) (embc := rhe1I _) [rhI _] dX12_layLightest_33 ml_X12_549 mv_X12_nextTight ⟨_, rfl, rfl⟩ h5 (c_X12_nextTight _ _ _ _ _) (by decide) (by decide) rfl (Nat.le_of_ble_eq_true rfl) (fun r9 _ => ?_)
        refine rhF.sub [0, 1] rfl ?_
        exact (b_X12_layLightest_36 ih) _ _ _ _
      · refine rhF.iconst (pc := 27) (v := (-1)) dX12_layLightest_27 (by decide) ?_
        refine rhF.goto (pc := 28) 36 dX12_layLightest_28 (by decide) ?_
        refine rhF.sub [0, 1] rfl ?_
        exact (b_X12_layLightest_36 ih) _ _ _ _
set_option maxHeartbeats 4000000 in
set_option maxRecDepth 100000 in
theorem b_X12_layLightest {E : rhE} {Γ : rhG} : ∀ (M : rhM) (v0 : Nat), rhF E 10 4 yX12_layLightest cX12_layLightest none Γ (rhe1U Γ) (f_X12_layLightest Γ M v0) 0 [(0, rhR v0)] [] Γ M := by
  intro M v0
  rw [f_X12_layLightest]
  refine rhF.aload_n (pc := 0) dX12_layLightest_0 0 rfl ?_
  refine rhF.ck (fun h1 => ?_)
  refine rhF.callV (pc := 1) (ci := 12) (embc := rhe1U _) [] dX12_layLightest_1 ml_X12_467 mv_X12_layNow ⟨_, rfl, rfl⟩ h1 (c_X12_layNow _ _ _ _) (by decide) (by decide) rfl (Nat.le_of_ble_eq_true rfl) (fun r2 _ => ?_)
  refine rhF.aload_n (pc := 4) dX12_layLightest_4 0 rfl ?_
  refine rhF.callV (pc := 5) (ci := 12) (embc := rhe0I _ _) [] dX12_layLightest_5 ml_X12_490 mv_X12_stateOf ⟨_, rfl, rfl⟩ h1 (c_X12_stateOf _ _ _ _) (by decide) (by decide) rfl (Nat.le_of_ble_eq_true rfl) (fun r3 _ => ?_)
  refine rhF.istore_n (pc := 8) (L' := [(1, rhI _), (0, rhR _)]) dX12_layLightest_8 (by decide) rfl ?_
  refine rhF.iconst (pc := 9) (v := 1) dX12_layLightest_9 (by decide) ?_
  refine rhF.istore_n (pc := 10) (L' := [(2, rhI _), (1, rhI _), (0, rhR _)]) dX12_layLightest_10 (by decide) rfl ?_
  refine rhF.sub [2, 1, 0] rfl ?_
  exact (b_X12_layLightest_11 rhFU) _ _ _ _
theorem c_X12_layLightest (E : rhE) (Γ : rhG) (M : rhM) (v0 : Nat) : ∀ a, f_X12_layLightest Γ M v0 = some a → rhC E 10 yX12_layLightest cX12_layLightest 4 none [rhR v0] Γ M ((rhe1U Γ) a) := rhF.met (by decide +kernel) (Nat.le_of_ble_eq_true rfl) (b_X12_layLightest M v0)
def f_X12_put (Γ : rhG) (M : rhM) (v0 : Nat) (v1 : Int32) (v2 : Int32) : Option (rhM) :=
  rhck (Γ.2.2.1 v0 = 13) <|
  rhck (Γ.2.2.1 (M.2.2 v0 67) = 15) <|
  rhck (0 ≤ (v1).toInt ∧ (v1).toInt < (Γ.2.2.2 (M.2.2 v0 67) : Nat)) <|
  let M4 := rhsi M (M.2.2 v0 67) (v1 : Int32).toNatClampNeg v2
  rhck (Γ.2.2.1 (M.2.2 v0 68) = 15) <|
  rhck (0 ≤ (v2).toInt ∧ (v2).toInt < (Γ.2.2.2 (M.2.2 v0 68) : Nat)) <|
  let M7 := rhsi M4 (M.2.2 v0 68) (v2 : Int32).toNatClampNeg v1
  some M7
set_option maxHeartbeats 4000000 in
set_option maxRecDepth 100000 in
theorem b_X12_put {E : rhE} {Γ : rhG} : ∀ (M : rhM) (v0 : Nat) (v1 : Int32) (v2 : Int32), rhF E 1 3 yX12_put cX12_put none Γ (rhe1U Γ) (f_X12_put Γ M v0 v1 v2) 0 [(0, rhR v0), (1, rhI v1), (2, rhI v2)] [] Γ M := by
  intro M v0 v1 v2
  rw [f_X12_put]
  refine rhF.aload_n (pc := 0) dX12_put_0 0 rfl ?_
  refine rhF.ck (fun h1 => ?_)
  refine rhF.get (pc := 1) (rhR _) dX12_put_1 fl_X12_151 h1 rfl ?_
  refine rhF.iload_n (pc := 4) dX12_put_4 1 rfl ?_
  refine rhF.iload_n (pc := 5) dX12_put_5 2 rfl ?_
  refine rhF.ck (fun h2 => ?_)
  refine rhF.ck (fun h3 => ?_)
  refine rhF.iast (pc := 6) dX12_put_6 h2 h3 ?_
  refine rhF.aload_n (pc := 7) dX12_put_7 0 rfl ?_
  refine rhF.get (pc := 8) (rhR _) dX12_put_8 fl_X12_154 h1 rfl ?_
  refine rhF.iload_n (pc := 11) dX12_put_11 2 rfl ?_
  refine rhF.iload_n (pc := 12) dX12_put_12 1 rfl ?_
  refine rhF.ck (fun h5 => ?_)
  refine rhF.ck (fun h6 => ?_)
  refine rhF.iast (pc := 13) dX12_put_13 h5 h6 ?_
  exact rhF.vret (pc := 14) dX12_put_14 rfl rfl
theorem c_X12_put (E : rhE) (Γ : rhG) (M : rhM) (v0 : Nat) (v1 : Int32) (v2 : Int32) : ∀ a, f_X12_put Γ M v0 v1 v2 = some a → rhC E 1 yX12_put cX12_put 3 none [rhR v0, rhI v1, rhI v2] Γ M ((rhe1U Γ) a) := rhF.met (by decide +kernel) (Nat.le_of_ble_eq_true rfl) (b_X12_put M v0 v1 v2)
def f_X12_rise_7 (k53 : rhM → Nat → Int32 → Int32 → Option (rhM)) (Γ : rhG) : Nat → rhM → Nat → Int32 → Int32 → Option (rhM)
  | 0, _, _, _, _ => none
  | n + 1, M, v0, v1, v2 =>
    if 0 < v2 then
      (rhck (Γ.2.2.1 v0 = 13) <|
      rhck (Γ.2.2.1 (M.2.2 v0 67) = 15) <|
      rhck (0 ≤ ((v2 - 1) / 2).toInt ∧ ((v2 - 1) / 2).toInt < (Γ.2.2.2 (M.2.2 v0 67) : Nat)) <|
      (f_X12_isBefore Γ M v0 v1 (M.1 (M.2.2 v0 67) ((v2 - 1) / 2).toNatClampNeg)).bind fun r9 =>
      if r9 = 0 then
        (k53 M v0 v1 v2)
      else
        (f_X12_put Γ M v0 v2 (M.1 (M.2.2 v0 67) ((v2 - 1) / 2).toNatClampNeg)).bind fun r11 =>
        let x12 := (v2 - 1) / 2
        f_X12_rise_7 k53 Γ n r11 v0 v1 x12)
    else
      k53 M v0 v1 v2
def f_X12_rise_53 (Γ : rhG) (M : rhM) (v0 : Nat) (v1 : Int32) (v2 : Int32) : Option (rhM) :=
  rhck (Γ.2.2.1 v0 = 13) <|
  (f_X12_put Γ M v0 v2 v1).bind fun r14 =>
  some r14
def f_X12_rise (Γ : rhG) (M : rhM) (v0 : Nat) (v1 : Int32) : Option (rhM) :=
  rhck (Γ.2.2.1 v0 = 13) <|
  rhck (Γ.2.2.1 (M.2.2 v0 68) = 15) <|
  rhck (0 ≤ (v1).toInt ∧ (v1).toInt < (Γ.2.2.2 (M.2.2 v0 68) : Nat)) <|
  let x4 := M.1 (M.2.2 v0 68) v1.toNatClampNeg
  f_X12_rise_7 (f_X12_rise_53 Γ) Γ rhFU M v0 v1 x4
set_option maxHeartbeats 4000000 in
set_option maxRecDepth 100000 in
theorem b_X12_rise_7 {E : rhE} {Γ : rhG} {k53 : rhM → Nat → Int32 → Int32 → Option (rhM)} (hk53 : ∀ (M : rhM) (v0 : Nat) (v1 : Int32) (v2 : Int32), rhF E 5 3 yX12_rise cX12_rise none Γ (rhe1U Γ) (k53 M v0 v1 v2) 53 [(0, rhR v0), (1, rhI v1), (2, rhI v2)] [] Γ M) : ∀ (n : Nat) (M : rhM) (v0 : Nat) (v1 : Int32) (v2 : Int32), rhF E 5 3 yX12_rise cX12_rise none Γ (rhe1U Γ) (f_X12_rise_7 k53 Γ n M v0 v1 v2) 7 [(0, rhR v0), (1, rhI v1), (2, rhI v2)] [] Γ M := by
  intro n
  induction n with
  | zero => intro M v0 v1 v2; rw [f_X12_rise_7]; exact rhF.nope
  | succ n ih =>
    intro M v0 v1 v2
    rw [f_X12_rise_7]
    refine rhF.iload_n (pc := 7) dX12_rise_7 2 rfl ?_
    refine rhF.if_le (pc := 8) 53 dX12_rise_8 (by decide) (fun h5 => ?_) (fun h5 => ?_)
    · refine rhF.aload_n (pc := 11) dX12_rise_11 0 rfl ?_
      refine rhF.iload_n (pc := 12) dX12_rise_12 1 rfl ?_
      refine rhF.aload_n (pc := 13) dX12_rise_13 0 rfl ?_
      refine rhF.ck (fun h6 => ?_)
      refine rhF.get (pc := 14) (rhR _) dX12_rise_14 fl_X12_151 h6 rfl ?_
      refine rhF.iload_n (pc := 17) dX12_rise_17 2 rfl ?_
      refine rhF.iconst (pc := 18) (v := 1) dX12_rise_18 (by decide) ?_
      refine rhF.isub (pc := 19) dX12_rise_19 ?_
      refine rhF.iconst (pc := 20) (v := 2) dX12_rise_20 (by decide) ?_
      refine rhF.idivc (pc := 21) dX12_rise_21 (by decide) ?_
      refine rhF.ck (fun h7 => ?_)
      refine rhF.ck (fun h8 => ?_)
      refine rhF.iald (pc := 22) dX12_rise_22 h7 h8 ?_
      refine rhF.callV (pc := 23) (ci := 12) (embc := rhe0I _ _) [rhI _, rhI _] dX12_rise_23 ml_X12_524 mv_X12_isBefore ⟨_, rfl, rfl⟩ h6 (c_X12_isBefore _ _ _ _ _ _) (by decide) (by decide) rfl (Nat.le_of_ble_eq_true rfl) (fun r9 _ => ?_)
      refine rhF.if_eq (pc := 26) 53 dX12_rise_26 (by decide) (fun h10 => ?_) (fun h10 => ?_)
      · exact hk53 _ _ _ _
      · refine rhF.aload_n (pc := 29) dX12_rise_29 0 rfl ?_
        refine rhF.iload_n (pc := 30) dX12_rise_30 2 rfl ?_
        refine rhF.aload_n (pc := 31) dX12_rise_31 0 rfl ?_
        refine rhF.get (pc := 32) (rhR _) dX12_rise_32 fl_X12_151 h6 rfl ?_
        refine rhF.iload_n (pc := 35) dX12_rise_35 2 rfl ?_
        refine rhF.iconst (pc := 36) (v := 1) dX12_rise_36 (by decide) ?_
        refine rhF.isub (pc := 37) dX12_rise_37 ?_
        refine rhF.iconst (pc := 38) (v := 2) dX12_rise_38 (by decide) ?_
        refine rhF.idivc (pc := 39) dX12_rise_39 (by decide) ?_
        refine rhF.iald (pc := 40) dX12_rise_40 h7 h8 ?_
        refine rhF.callV (pc := 41) (ci := 12) (embc := rhe1U _) [rhI _, rhI _] dX12_rise_41 ml_X12_528 mv_X12_put ⟨_, rfl, rfl⟩ h6 (c_X12_put _ _ _ _ _ _) (by decide) (by decide) rfl (Nat.le_of_ble_eq_true rfl) (fun r11 _ => ?_)
        refine rhF.iload_n (pc := 44) dX12_rise_44 2 rfl ?_
        refine rhF.iconst (pc := 45) (v := 1) dX12_rise_45 (by decide) ?_
        refine rhF.isub (pc := 46) dX12_rise_46 ?_
        refine rhF.iconst (pc := 47) (v := 2) dX12_rise_47 (by decide) ?_
        refine rhF.idivc (pc := 48) dX12_rise_48 (by decide) ?_
        refine rhF.istore_n (pc := 49) (L' := [(2, rhI _), (0, rhR _), (1, rhI _)]) dX12_rise_49 (by decide) rfl ?_
        refine rhF.goto (pc := 50) 7 dX12_rise_50 (by decide) ?_
        refine rhF.sub [1, 2, 0] rfl ?_
        exact ih _ _ _ _
    · exact hk53 _ _ _ _
set_option maxHeartbeats 4000000 in
set_option maxRecDepth 100000 in
theorem b_X12_rise_53 {E : rhE} {Γ : rhG} : ∀ (M : rhM) (v0 : Nat) (v1 : Int32) (v2 : Int32), rhF E 5 3 yX12_rise cX12_rise none Γ (rhe1U Γ) (f_X12_rise_53 Γ M v0 v1 v2) 53 [(0, rhR v0), (1, rhI v1), (2, rhI v2)] [] Γ M := by
  intro M v0 v1 v2
  rw [f_X12_rise_53]
  refine rhF.aload_n (pc := 53) dX12_rise_53 0 rfl ?_
  refine rhF.iload_n (pc := 54) dX12_rise_54 2 rfl ?_
  refine rhF.iload_n (pc := 55) dX12_rise_55 1 rfl ?_
  refine rhF.ck (fun h13 => ?_)
  refine rhF.callV (pc := 56) (ci := 12) (embc := rhe1U _) [rhI _, rhI _] dX12_rise_56 ml_X12_528 mv_X12_put ⟨_, rfl, rfl⟩ h13 (c_X12_put _ _ _ _ _ _) (by decide) (by decide) rfl (Nat.le_of_ble_eq_true rfl) (fun r14 _ => ?_)
  exact rhF.vret (pc := 59) dX12_rise_59 rfl rfl
set_option maxHeartbeats 4000000 in
set_option maxRecDepth 100000 in
theorem b_X12_rise {E : rhE} {Γ : rhG} : ∀ (M : rhM) (v0 : Nat) (v1 : Int32), rhF E 5 3 yX12_rise cX12_rise none Γ (rhe1U Γ) (f_X12_rise Γ M v0 v1) 0 [(0, rhR v0), (1, rhI v1)] [] Γ M := by
  intro M v0 v1
  rw [f_X12_rise]
  refine rhF.aload_n (pc := 0) dX12_rise_0 0 rfl ?_
  refine rhF.ck (fun h1 => ?_)
  refine rhF.get (pc := 1) (rhR _) dX12_rise_1 fl_X12_154 h1 rfl ?_
  refine rhF.iload_n (pc := 4) dX12_rise_4 1 rfl ?_
  refine rhF.ck (fun h2 => ?_)
  refine rhF.ck (fun h3 => ?_)
  refine rhF.iald (pc := 5) dX12_rise_5 h2 h3 ?_
  refine rhF.istore_n (pc := 6) (L' := [(2, rhI _), (0, rhR _), (1, rhI _)]) dX12_rise_6 (by decide) rfl ?_
  refine rhF.sub [1, 2, 0] rfl ?_
  exact (b_X12_rise_7 (b_X12_rise_53) rhFU) _ _ _ _
theorem c_X12_rise (E : rhE) (Γ : rhG) (M : rhM) (v0 : Nat) (v1 : Int32) : ∀ a, f_X12_rise Γ M v0 v1 = some a → rhC E 5 yX12_rise cX12_rise 3 none [rhR v0, rhI v1] Γ M ((rhe1U Γ) a) := rhF.met (by decide +kernel) (Nat.le_of_ble_eq_true rfl) (b_X12_rise M v0 v1)
def f_X12_reaches_91 (Γ : rhG) (M : rhM) (v0 : Nat) (v1 : Int32) : Option (rhM) :=
  rhck (Γ.2.2.1 v0 = 13) <|
  (f_X12_rise Γ M v0 v1).bind fun r23 =>
  some r23
def f_X12_reaches_52 (Γ : rhG) (M : rhM) (v0 : Nat) (v1 : Int32) (v2 : Int32) (v3 : Int32) (v4 : Int32) : Option (rhM) :=
  rhck (Γ.2.2.1 v0 = 13) <|
  rhck (Γ.2.2.1 (M.2.2 v0 57) = 15) <|
  rhck (0 ≤ (v1).toInt ∧ (v1).toInt < (Γ.2.2.2 (M.2.2 v0 57) : Nat)) <|
  let M17 := rhsi M (M.2.2 v0 57) (v1 : Int32).toNatClampNeg v2
  rhck (Γ.2.2.1 (M.2.2 v0 56) = 15) <|
  rhck (0 ≤ (v1).toInt ∧ (v1).toInt < (Γ.2.2.2 (M.2.2 v0 56) : Nat)) <|
  let M20 := rhsi M17 (M.2.2 v0 56) (v1 : Int32).toNatClampNeg v3
  if v4 = 0 then
    (f_X12_reaches_91 Γ M20 v0 v1)
  else
    rhck (Γ.2.2.1 (M.2.2 v0 68) = 15) <|
    rhck (0 ≤ (v1).toInt ∧ (v1).toInt < (Γ.2.2.2 (M.2.2 v0 68) : Nat)) <|
    let M26 := rhsi M20 (M.2.2 v0 68) (v1 : Int32).toNatClampNeg (M20.1 v0 70)
    let M27 := rhsi M26 v0 70 ((M26.1 v0 70) + 1)
    f_X12_reaches_91 Γ M27 v0 v1
def f_X12_reaches_14 (Γ : rhG) (M : rhM) (v0 : Nat) (v1 : Int32) (v2 : Int32) (v3 : Int32) (s0 : Int32) : Option (rhM) :=
  if s0 = 0 then
    (rhck (Γ.2.2.1 v0 = 13) <|
    rhck (Γ.2.2.1 (M.2.2 v0 57) = 15) <|
    rhck (0 ≤ (v1).toInt ∧ (v1).toInt < (Γ.2.2.2 (M.2.2 v0 57) : Nat)) <|
    if (M.1 (M.2.2 v0 57) v1.toNatClampNeg) < v2 then
      (some M)
    else
      if (M.1 (M.2.2 v0 57) v1.toNatClampNeg) = v2 then
        (rhck (Γ.2.2.1 (M.2.2 v0 56) = 15) <|
        rhck (0 ≤ (v1).toInt ∧ (v1).toInt < (Γ.2.2.2 (M.2.2 v0 56) : Nat)) <|
        if v3 < (M.1 (M.2.2 v0 56) v1.toNatClampNeg) then
          (f_X12_reaches_52 Γ M v0 v1 v2 v3 s0)
        else
          some M)
      else
        f_X12_reaches_52 Γ M v0 v1 v2 v3 s0)
  else
    f_X12_reaches_52 Γ M v0 v1 v2 v3 s0
def f_X12_reaches (Γ : rhG) (M : rhM) (v0 : Nat) (v1 : Int32) (v2 : Int32) (v3 : Int32) : Option (rhM) :=
  rhck (Γ.2.2.1 v0 = 13) <|
  rhck (Γ.2.2.1 (M.2.2 v0 56) = 15) <|
  rhck (0 ≤ (v1).toInt ∧ (v1).toInt < (Γ.2.2.2 (M.2.2 v0 56) : Nat)) <|
  if (M.1 (M.2.2 v0 56) v1.toNatClampNeg) < 0 then
    (f_X12_reaches_14 Γ M v0 v1 v2 v3 1)
  else
    f_X12_reaches_14 Γ M v0 v1 v2 v3 0
set_option maxHeartbeats 4000000 in
set_option maxRecDepth 100000 in
theorem b_X12_reaches_91 {E : rhE} {Γ : rhG} : ∀ (M : rhM) (v0 : Nat) (v1 : Int32), rhF E 6 5 yX12_reaches cX12_reaches none Γ (rhe1U Γ) (f_X12_reaches_91 Γ M v0 v1) 91 [(0, rhR v0), (1, rhI v1)] [] Γ M := by
  intro M v0 v1
  rw [f_X12_reaches_91]
  refine rhF.aload_n (pc := 91) dX12_reaches_91 0 rfl ?_
  refine rhF.iload_n (pc := 92) dX12_reaches_92 1 rfl ?_
  refine rhF.ck (fun h22 => ?_)
  refine rhF.callV (pc := 93) (ci := 12) (embc := rhe1U _) [rhI _] dX12_reaches_93 ml_X12_534 mv_X12_rise ⟨_, rfl, rfl⟩ h22 (c_X12_rise _ _ _ _ _) (by decide) (by decide) rfl (Nat.le_of_ble_eq_true rfl) (fun r23 _ => ?_)
  exact rhF.vret (pc := 96) dX12_reaches_96 rfl rfl
set_option maxHeartbeats 4000000 in
set_option maxRecDepth 100000 in
theorem b_X12_reaches_52 {E : rhE} {Γ : rhG} : ∀ (M : rhM) (v0 : Nat) (v1 : Int32) (v2 : Int32) (v3 : Int32) (v4 : Int32), rhF E 6 5 yX12_reaches cX12_reaches none Γ (rhe1U Γ) (f_X12_reaches_52 Γ M v0 v1 v2 v3 v4) 52 [(0, rhR v0), (1, rhI v1), (2, rhI v2), (3, rhI v3), (4, rhI v4)] [] Γ M := by
  intro M v0 v1 v2 v3 v4
  rw [f_X12_reaches_52]
  refine rhF.aload_n (pc := 52) dX12_reaches_52 0 rfl ?_
  refine rhF.ck (fun h14 => ?_)
  refine rhF.get (pc := 53) (rhR _) dX12_reaches_53 fl_X12_132 h14 rfl ?_
  refine rhF.iload_n (pc := 56) dX12_reaches_56 1 rfl ?_
  refine rhF.iload_n (pc := 57) dX12_reaches_57 2 rfl ?_
  refine rhF.ck (fun h15 => ?_)
  refine rhF.ck (fun h16 => ?_)
  refine rhF.iast (pc := 58) dX12_reaches_58 h15 h16 ?_
  refine rhF.aload_n (pc := 59) dX12_reaches_59 0 rfl ?_
  refine rhF.get (pc := 60) (rhR _) dX12_reaches_60 fl_X12_129 h14 rfl ?_
  refine rhF.iload_n (pc := 63) dX12_reaches_63 1 rfl ?_
  refine rhF.iload_n (pc := 64) dX12_reaches_64 3 rfl ?_
  refine rhF.ck (fun h18 => ?_)
  refine rhF.ck (fun h19 => ?_)
  refine rhF.iast (pc := 65) dX12_reaches_65 h18 h19 ?_
  refine rhF.iload (pc := 66) dX12_reaches_66 4 rfl ?_
  refine rhF.if_eq (pc := 68) 91 dX12_reaches_68 (by decide) (fun h21 => ?_) (fun h21 => ?_)
  · refine rhF.sub [0, 1] rfl ?_
    exact (b_X12_reaches_91) _ _ _
  · refine rhF.aload_n (pc := 71) dX12_reaches_71 0 rfl ?_
    refine rhF.get (pc := 72) (rhR _) dX12_reaches_72 fl_X12_154 h14 rfl ?_
    refine rhF.iload_n (pc := 75) dX12_reaches_75 1 rfl ?_
    refine rhF.aload_n (pc := 76) dX12_reaches_76 0 rfl ?_
    refine rhF.get (pc := 77) (rhI _) dX12_reaches_77 fl_X12_531 h14 rfl ?_
    refine rhF.ck (fun h24 => ?_)
    refine rhF.ck (fun h25 => ?_)
    refine rhF.iast (pc := 80) dX12_reaches_80 h24 h25 ?_
    refine rhF.aload_n (pc := 81) dX12_reaches_81 0 rfl ?_
    refine rhF.dupr (pc := 82) dX12_reaches_82 ?_
    refine rhF.get (pc := 83) (rhI _) dX12_reaches_83 fl_X12_531 h14 rfl ?_
    refine rhF.iconst (pc := 86) (v := 1) dX12_reaches_86 (by decide) ?_
    refine rhF.iadd (pc := 87) dX12_reaches_87 ?_
    refine rhF.puti (pc := 88) dX12_reaches_88 fl_X12_531 h14 (fun q hq => by cases hq; exact Or.inl rfl) ⟨rfl, rfl⟩ (fun _ => rfl) ?_
    refine rhF.sub [0, 1] rfl ?_
    exact (b_X12_reaches_91) _ _ _
set_option maxHeartbeats 4000000 in
set_option maxRecDepth 100000 in
theorem b_X12_reaches_14 {E : rhE} {Γ : rhG} : ∀ (M : rhM) (v0 : Nat) (v1 : Int32) (v2 : Int32) (v3 : Int32) (s0 : Int32), rhF E 6 5 yX12_reaches cX12_reaches none Γ (rhe1U Γ) (f_X12_reaches_14 Γ M v0 v1 v2 v3 s0) 14 [(0, rhR v0), (1, rhI v1), (2, rhI v2), (3, rhI v3)] [rhI s0] Γ M := by
  intro M v0 v1 v2 v3 s0
  rw [f_X12_reaches_14]
  refine rhF.istore (pc := 14) (L' := [(4, rhI _), (0, rhR _), (1, rhI _), (2, rhI _), (3, rhI _)]) dX12_reaches_14 (by decide) rfl ?_
  refine rhF.iload (pc := 16) dX12_reaches_16 0 rfl ?_
  refine rhF.if_ne (pc := 18) 52 dX12_reaches_18 (by decide) (fun h5 => ?_) (fun h5 => ?_)
  · refine rhF.aload_n (pc := 21) dX12_reaches_21 1 rfl ?_
    refine rhF.ck (fun h6 => ?_)
    refine rhF.get (pc := 22) (rhR _) dX12_reaches_22 fl_X12_132 h6 rfl ?_
    refine rhF.iload_n (pc := 25) dX12_reaches_25 2 rfl ?_
    refine rhF.ck (fun h7 => ?_)
    refine rhF.ck (fun h8 => ?_)
    refine rhF.iald (pc := 26) dX12_reaches_26 h7 h8 ?_
    refine rhF.iload_n (pc := 27) dX12_reaches_27 3 rfl ?_
    refine rhF.icmp_lt (pc := 28) 51 dX12_reaches_28 (by decide) (fun h9 => ?_) (fun h9 => ?_)
    · exact rhF.vret (pc := 51) dX12_reaches_51 rfl rfl
    · refine rhF.aload_n (pc := 31) dX12_reaches_31 1 rfl ?_
      refine rhF.get (pc := 32) (rhR _) dX12_reaches_32 fl_X12_132 h6 rfl ?_
      refine rhF.iload_n (pc := 35) dX12_reaches_35 2 rfl ?_
      refine rhF.iald (pc := 36) dX12_reaches_36 h7 h8 ?_
      refine rhF.iload_n (pc := 37) dX12_reaches_37 3 rfl ?_
      refine rhF.icmp_ne (pc := 38) 52 dX12_reaches_38 (by decide) (fun h10 => ?_) (fun h10 => ?_)
      · refine rhF.aload_n (pc := 41) dX12_reaches_41 1 rfl ?_
        refine rhF.get (pc := 42) (rhR _) dX12_reaches_42 fl_X12_129 h6 rfl ?_
        refine rhF.iload_n (pc := 45) dX12_reaches_45 2 rfl ?_
        refine rhF.ck (fun h11 => ?_)
        refine rhF.ck (fun h12 => ?_)
        refine rhF.iald (pc := 46) dX12_reaches_46 h11 h12 ?_
        refine rhF.iload_n (pc := 47) dX12_reaches_47 4 rfl ?_
        refine rhF.icmp_gt (pc := 48) 52 dX12_reaches_48 (by decide) (fun h13 => ?_) (fun h13 => ?_)
        · refine rhF.sub [1, 2, 3, 4, 0] rfl ?_
          exact (b_X12_reaches_52) _ _ _ _ _ _
        · exact rhF.vret (pc := 51) dX12_reaches_51 rfl rfl
      · refine rhF.sub [1, 2, 3, 4, 0] rfl ?_
        exact (b_X12_reaches_52) _ _ _ _ _ _
  · refine rhF.sub [1, 2, 3, 4, 0] rfl ?_
    exact (b_X12_reaches_52) _ _ _ _ _ _
set_option maxHeartbeats 4000000 in
set_option maxRecDepth 100000 in
theorem b_X12_reaches {E : rhE} {Γ : rhG} : ∀ (M : rhM) (v0 : Nat) (v1 : Int32) (v2 : Int32) (v3 : Int32), rhF E 6 5 yX12_reaches cX12_reaches none Γ (rhe1U Γ) (f_X12_reaches Γ M v0 v1 v2 v3) 0 [(0, rhR v0), (1, rhI v1), (2, rhI v2), (3, rhI v3)] [] Γ M := by
  intro M v0 v1 v2 v3
  rw [f_X12_reaches]
  refine rhF.aload_n (pc := 0) dX12_reaches_0 0 rfl ?_
  refine rhF.ck (fun h1 => ?_)
  refine rhF.get (pc := 1) (rhR _) dX12_reaches_1 fl_X12_129 h1 rfl ?_
  refine rhF.iload_n (pc := 4) dX12_reaches_4 1 rfl ?_
  refine rhF.ck (fun h2 => ?_)
  refine rhF.ck (fun h3 => ?_)
  refine rhF.iald (pc := 5) dX12_reaches_5 h2 h3 ?_
  refine rhF.if_ge (pc := 6) 13 dX12_reaches_6 (by decide) (fun h4 => ?_) (fun h4 => ?_)
  · refine rhF.iconst (pc := 9) (v := 1) dX12_reaches_9 (by decide) ?_
    refine rhF.goto (pc := 10) 14 dX12_reaches_10 (by decide) ?_
    exact (b_X12_reaches_14) _ _ _ _ _ _
  · refine rhF.iconst (pc := 13) (v := 0) dX12_reaches_13 (by decide) ?_
    exact (b_X12_reaches_14) _ _ _ _ _ _
theorem c_X12_reaches (E : rhE) (Γ : rhG) (M : rhM) (v0 : Nat) (v1 : Int32) (v2 : Int32) (v3 : Int32) : ∀ a, f_X12_reaches Γ M v0 v1 v2 v3 = some a → rhC E 6 yX12_reaches cX12_reaches 5 none [rhR v0, rhI v1, rhI v2, rhI v3] Γ M ((rhe1U Γ) a) := rhF.met (by decide +kernel) (Nat.le_of_ble_eq_true rfl) (b_X12_reaches M v0 v1 v2 v3)
def f_X12_takeFirst_120 (k121 : rhM → Nat → Int32 → Int32 → Int32 → Int32 → Int32 → Option (Int32 × rhM)) (Γ : rhG) (M : rhM) (v0 : Nat) (v1 : Int32) (v2 : Int32) (v3 : Int32) (v5 : Int32) : Option (Int32 × rhM) :=
  k121 M v0 v1 v2 v3 v5 0
def f_X12_takeFirst_121 (k43 : rhM → Nat → Int32 → Int32 → Int32 → Int32 → Option (Int32 × rhM)) (Γ : rhG) (M : rhM) (v0 : Nat) (v1 : Int32) (v2 : Int32) (v3 : Int32) (v5 : Int32) (s0 : Int32) : Option (Int32 × rhM) :=
  if s0 = 0 then
    (k43 M v0 v1 v2 v3 s0)
  else
    rhck (Γ.2.2.1 v0 = 13) <|
    rhck (Γ.2.2.1 (M.2.2 v0 67) = 15) <|
    rhck (0 ≤ (v5).toInt ∧ (v5).toInt < (Γ.2.2.2 (M.2.2 v0 67) : Nat)) <|
    (f_X12_put Γ M v0 v3 (M.1 (M.2.2 v0 67) v5.toNatClampNeg)).bind fun r28 =>
    k43 r28 v0 v1 v2 v5 s0
def f_X12_takeFirst_92 (k43 : rhM → Nat → Int32 → Int32 → Int32 → Int32 → Option (Int32 × rhM)) (Γ : rhG) (M : rhM) (v0 : Nat) (v1 : Int32) (v2 : Int32) (v3 : Int32) (v5 : Int32) : Option (Int32 × rhM) :=
  rhck (Γ.2.2.1 v0 = 13) <|
  if v5 < (M.1 v0 70) then
    (rhck (Γ.2.2.1 (M.2.2 v0 67) = 15) <|
    rhck (0 ≤ (v5).toInt ∧ (v5).toInt < (Γ.2.2.2 (M.2.2 v0 67) : Nat)) <|
    (f_X12_isBefore Γ M v0 (M.1 (M.2.2 v0 67) v5.toNatClampNeg) v2).bind fun r22 =>
    if r22 = 0 then
      (f_X12_takeFirst_120 (f_X12_takeFirst_121 k43 Γ) Γ M v0 v1 v2 v3 v5)
    else
      f_X12_takeFirst_121 k43 Γ M v0 v1 v2 v3 v5 1)
  else
    f_X12_takeFirst_120 (f_X12_takeFirst_121 k43 Γ) Γ M v0 v1 v2 v3 v5
def f_X12_takeFirst_43 (k149 : rhM → Nat → Int32 → Int32 → Int32 → Option (Int32 × rhM)) (Γ : rhG) : Nat → rhM → Nat → Int32 → Int32 → Int32 → Int32 → Option (Int32 × rhM)
  | 0, _, _, _, _, _, _ => none
  | n + 1, M, v0, v1, v2, v3, v4 =>
    if v4 = 0 then
      (k149 M v0 v1 v2 v3)
    else
      let x10 := (2 * v3) + 1
      rhck (Γ.2.2.1 v0 = 13) <|
      if (x10 + 1) < (M.1 v0 70) then
        (rhck (Γ.2.2.1 (M.2.2 v0 67) = 15) <|
        rhck (0 ≤ (x10 + 1).toInt ∧ (x10 + 1).toInt < (Γ.2.2.2 (M.2.2 v0 67) : Nat)) <|
        rhck (0 ≤ (x10).toInt ∧ (x10).toInt < (Γ.2.2.2 (M.2.2 v0 67) : Nat)) <|
        (f_X12_isBefore Γ M v0 (M.1 (M.2.2 v0 67) (x10 + 1).toNatClampNeg) (M.1 (M.2.2 v0 67) x10.toNatClampNeg)).bind fun r16 =>
        if r16 = 0 then
          (f_X12_takeFirst_92 (f_X12_takeFirst_43 k149 Γ n) Γ M v0 v1 v2 v3 x10)
        else
          let x29 : Int32 := x10 + 1
          f_X12_takeFirst_92 (f_X12_takeFirst_43 k149 Γ n) Γ M v0 v1 v2 v3 x29)
      else
        f_X12_takeFirst_92 (f_X12_takeFirst_43 k149 Γ n) Γ M v0 v1 v2 v3 x10
def f_X12_takeFirst_162 (Γ : rhG) (M : rhM) (v0 : Nat) (v1 : Int32) : Option (Int32 × rhM) :=
  rhck (Γ.2.2.1 v0 = 13) <|
  rhck (Γ.2.2.1 (M.2.2 v0 68) = 15) <|
  rhck (0 ≤ (v1).toInt ∧ (v1).toInt < (Γ.2.2.2 (M.2.2 v0 68) : Nat)) <|
  let M36 := rhsi M (M.2.2 v0 68) (v1 : Int32).toNatClampNeg ((-1))
  some ((v1, M36))
def f_X12_takeFirst_149 (Γ : rhG) (M : rhM) (v0 : Nat) (v1 : Int32) (v2 : Int32) (v3 : Int32) : Option (Int32 × rhM) :=
  rhck (Γ.2.2.1 v0 = 13) <|
  if 0 < (M.1 v0 70) then
    ((f_X12_put Γ M v0 v3 v2).bind fun r32 =>
    f_X12_takeFirst_162 Γ r32 v0 v1)
  else
    f_X12_takeFirst_162 Γ M v0 v1
def f_X12_takeFirst_41 (Γ : rhG) (M : rhM) (v0 : Nat) (v1 : Int32) (v2 : Int32) (v3 : Int32) (s0 : Int32) : Option (Int32 × rhM) :=
  f_X12_takeFirst_43 (f_X12_takeFirst_149 Γ) Γ rhFU M v0 v1 v2 v3 s0
def f_X12_takeFirst (Γ : rhG) (M : rhM) (v0 : Nat) : Option (Int32 × rhM) :=
  rhck (Γ.2.2.1 v0 = 13) <|
  rhck (Γ.2.2.1 (M.2.2 v0 67) = 15) <|
  rhck (0 ≤ (0 : Int32).toInt ∧ (0 : Int32).toInt < (Γ.2.2.2 (M.2.2 v0 67) : Nat)) <|
  let x4 := M.1 (M.2.2 v0 67) (0 : Int32).toNatClampNeg
  let M5 := rhsi M v0 70 ((M.1 v0 70) - 1)
  rhck (0 ≤ (M5.1 v0 70).toInt ∧ (M5.1 v0 70).toInt < (Γ.2.2.2 (M.2.2 v0 67) : Nat)) <|
  let x7 := M5.1 (M.2.2 v0 67) (M5.1 v0 70).toNatClampNeg
  if 0 < (M5.1 v0 70) then
    (f_X12_takeFirst_41 Γ M5 v0 x4 x7 0 1)
  else
    f_X12_takeFirst_41 Γ M5 v0 x4 x7 0 0
set_option maxHeartbeats 4000000 in
set_option maxRecDepth 100000 in
theorem b_X12_takeFirst_120 {E : rhE} {Γ : rhG} {k121 : rhM → Nat → Int32 → Int32 → Int32 → Int32 → Int32 → Option (Int32 × rhM)} (hk121 : ∀ (M : rhM) (v0 : Nat) (v1 : Int32) (v2 : Int32) (v3 : Int32) (v5 : Int32) (s0 : Int32), rhF E 5 6 yX12_takeFirst cX12_takeFirst (some .int) Γ (rhe1I Γ) (k121 M v0 v1 v2 v3 v5 s0) 121 [(0, rhR v0), (1, rhI v1), (2, rhI v2), (3, rhI v3), (5, rhI v5)] [rhI s0] Γ M) : ∀ (M : rhM) (v0 : Nat) (v1 : Int32) (v2 : Int32) (v3 : Int32) (v5 : Int32), rhF E 5 6 yX12_takeFirst cX12_takeFirst (some .int) Γ (rhe1I Γ) (f_X12_takeFirst_120 k121 Γ M v0 v1 v2 v3 v5) 120 [(0, rhR v0), (1, rhI v1), (2, rhI v2), (3, rhI v3), (5, rhI v5)] [] Γ M := by
  intro M v0 v1 v2 v3 v5
  rw [f_X12_takeFirst_120]
  refine rhF.iconst (pc := 120) (v := 0) dX12_takeFirst_120 (by decide) ?_
  exact hk121 _ _ _ _ _ _ _
set_option maxHeartbeats 4000000 in
set_option maxRecDepth 100000 in
theorem b_X12_takeFirst_121 {E : rhE} {Γ : rhG} {k43 : rhM → Nat → Int32 → Int32 → Int32 → Int32 → Option (Int32 × rhM)} (hk43 : ∀ (M : rhM) (v0 : Nat) (v1 : Int32) (v2 : Int32) (v3 : Int32) (v4 : Int32), rhF E 5 6 yX12_takeFirst cX12_takeFirst (some .int) Γ (rhe1I Γ) (k43 M v0 v1 v2 v3 v4) 43 [(0, rhR v0), (1, rhI v1), (2, rhI v2), (3, rhI v3), (4, rhI v4)] [] Γ M) : ∀ (M : rhM) (v0 : Nat) (v1 : Int32) (v2 : Int32) (v3 : Int32) (v5 : Int32) (s0 : Int32), rhF E 5 6 yX12_takeFirst cX12_takeFirst (some .int) Γ (rhe1I Γ) (f_X12_takeFirst_121 k43 Γ M v0 v1 v2 v3 v5 s0) 121 [(0, rhR v0), (1, rhI v1), (2, rhI v2), (3, rhI v3), (5, rhI v5)] [rhI s0] Γ M := by
  intro M v0 v1 v2 v3 v5 s0
  rw [f_X12_takeFirst_121]
  refine rhF.istore (pc := 121) (L' := [(4, rhI _), (0, rhR _), (1, rhI _), (2, rhI _), (3, rhI _), (5, rhI _)]) dX12_takeFirst_121 (by decide) rfl ?_
  refine rhF.iload (pc := 123) dX12_takeFirst_123 0 rfl ?_
  refine rhF.if_ne (pc := 125) 131 dX12_takeFirst_125 (by decide) (fun h24 => ?_) (fun h24 => ?_)
  · refine rhF.goto (pc := 128) 43 dX12_takeFirst_128 (by decide) ?_
    refine rhF.sub [1, 2, 3, 4, 0] rfl ?_
    exact hk43 _ _ _ _ _ _
  · refine rhF.aload_n (pc := 131) dX12_takeFirst_131 1 rfl ?_
    refine rhF.iload_n (pc := 132) dX12_takeFirst_132 4 rfl ?_
    refine rhF.aload_n (pc := 133) dX12_takeFirst_133 1 rfl ?_
    refine rhF.ck (fun h25 => ?_)
    refine rhF.get (pc := 134) (rhR _) dX12_takeFirst_134 fl_X12_151 h25 rfl ?_
    refine rhF.iload (pc := 137) dX12_takeFirst_137 5 rfl ?_
    refine rhF.ck (fun h26 => ?_)
    refine rhF.ck (fun h27 => ?_)
    refine rhF.iald (pc := 139) dX12_takeFirst_139 h26 h27 ?_
    refine rhF.callV (pc := 140) (ci := 12) (embc := rhe1U _) [rhI _, rhI _] dX12_takeFirst_140 ml_X12_528 mv_X12_put ⟨_, rfl, rfl⟩ h25 (c_X12_put _ _ _ _ _ _) (by decide) (by decide) rfl (Nat.le_of_ble_eq_true rfl) (fun r28 _ => ?_)
    refine rhF.iload (pc := 143) dX12_takeFirst_143 5 rfl ?_
    refine rhF.istore_n (pc := 145) (L' := [(3, rhI _), (4, rhI _), (0, rhR _), (1, rhI _), (2, rhI _), (5, rhI _)]) dX12_takeFirst_145 (by decide) rfl ?_
    refine rhF.goto (pc := 146) 43 dX12_takeFirst_146 (by decide) ?_
    refine rhF.sub [2, 3, 4, 0, 1] rfl ?_
    exact hk43 _ _ _ _ _ _
set_option maxHeartbeats 4000000 in
set_option maxRecDepth 100000 in
theorem b_X12_takeFirst_92 {E : rhE} {Γ : rhG} {k43 : rhM → Nat → Int32 → Int32 → Int32 → Int32 → Option (Int32 × rhM)} (hk43 : ∀ (M : rhM) (v0 : Nat) (v1 : Int32) (v2 : Int32) (v3 : Int32) (v4 : Int32), rhF E 5 6 yX12_takeFirst cX12_takeFirst (some .int) Γ (rhe1I Γ) (k43 M v0 v1 v2 v3 v4) 43 [(0, rhR v0), (1, rhI v1), (2, rhI v2), (3, rhI v3), (4, rhI v4)] [] Γ M) : ∀ (M : rhM) (v0 : Nat) (v1 : Int32) (v2 : Int32) (v3 : Int32) (v5 : Int32), rhF E 5 6 yX12_takeFirst cX12_takeFirst (some .int) Γ (rhe1I Γ) (f_X12_takeFirst_92 k43 Γ M v0 v1 v2 v3 v5) 92 [(0, rhR v0), (1, rhI v1), (2, rhI v2), (3, rhI v3), (5, rhI v5)] [] Γ M := by
  intro M v0 v1 v2 v3 v5
  rw [f_X12_takeFirst_92]
  refine rhF.iload (pc := 92) dX12_takeFirst_92 4 rfl ?_
  refine rhF.aload_n (pc := 94) dX12_takeFirst_94 0 rfl ?_
  refine rhF.ck (fun h18 => ?_)
  refine rhF.get (pc := 95) (rhI _) dX12_takeFirst_95 fl_X12_531 h18 rfl ?_
  refine rhF.icmp_ge (pc := 98) 120 dX12_takeFirst_98 (by decide) (fun h19 => ?_) (fun h19 => ?_)
  · refine rhF.aload_n (pc := 101) dX12_takeFirst_101 0 rfl ?_
    refine rhF.aload_n (pc := 102) dX12_takeFirst_102 0 rfl ?_
    refine rhF.get (pc := 103) (rhR _) dX12_takeFirst_103 fl_X12_151 h18 rfl ?_
    refine rhF.iload (pc := 106) dX12_takeFirst_106 4 rfl ?_
    refine rhF.ck (fun h20 => ?_)
    refine rhF.ck (fun h21 => ?_)
    refine rhF.iald (pc := 108) dX12_takeFirst_108 h20 h21 ?_
    refine rhF.iload_n (pc := 109) dX12_takeFirst_109 2 rfl ?_
    refine rhF.callV (pc := 110) (ci := 12) (embc := rhe0I _ _) [rhI _, rhI _] dX12_takeFirst_110 ml_X12_524 mv_X12_isBefore ⟨_, rfl, rfl⟩ h18 (c_X12_isBefore _ _ _ _ _ _) (by decide) (by decide) rfl (Nat.le_of_ble_eq_true rfl) (fun r22 _ => ?_)
    refine rhF.if_eq (pc := 113) 120 dX12_takeFirst_113 (by decide) (fun h23 => ?_) (fun h23 => ?_)
    · exact (b_X12_takeFirst_120 (b_X12_takeFirst_121 hk43)) _ _ _ _ _ _
    · refine rhF.iconst (pc := 116) (v := 1) dX12_takeFirst_116 (by decide) ?_
      refine rhF.goto (pc := 117) 121 dX12_takeFirst_117 (by decide) ?_
      exact (b_X12_takeFirst_121 hk43) _ _ _ _ _ _ _
  · exact (b_X12_takeFirst_120 (b_X12_takeFirst_121 hk43)) _ _ _ _ _ _
set_option maxHeartbeats 4000000 in
set_option maxRecDepth 100000 in
theorem b_X12_takeFirst_43 {E : rhE} {Γ : rhG} {k149 : rhM → Nat → Int32 → Int32 → Int32 → Option (Int32 × rhM)} (hk149 : ∀ (M : rhM) (v0 : Nat) (v1 : Int32) (v2 : Int32) (v3 : Int32), rhF E 5 6 yX12_takeFirst cX12_takeFirst (some .int) Γ (rhe1I Γ) (k149 M v0 v1 v2 v3) 149 [(0, rhR v0), (1, rhI v1), (2, rhI v2), (3, rhI v3)] [] Γ M) : ∀ (n : Nat) (M : rhM) (v0 : Nat) (v1 : Int32) (v2 : Int32) (v3 : Int32) (v4 : Int32), rhF E 5 6 yX12_takeFirst cX12_takeFirst (some .int) Γ (rhe1I Γ) (f_X12_takeFirst_43 k149 Γ n M v0 v1 v2 v3 v4) 43 [(0, rhR v0), (1, rhI v1), (2, rhI v2), (3, rhI v3), (4, rhI v4)] [] Γ M := by
  intro n
  induction n with
  | zero => intro M v0 v1 v2 v3 v4; rw [f_X12_takeFirst_43]; exact rhF.nope
  | succ n ih =>
    intro M v0 v1 v2 v3 v4
    rw [f_X12_takeFirst_43]
    refine rhF.iload (pc := 43) dX12_takeFirst_43 4 rfl ?_
    refine rhF.if_eq (pc := 45) 149 dX12_takeFirst_45 (by decide) (fun h9 => ?_) (fun h9 => ?_)
    · refine rhF.sub [0, 1, 2, 3] rfl ?_
      exact hk149 _ _ _ _ _
    · refine rhF.iconst (pc := 48) (v := 2) dX12_takeFirst_48 (by decide) ?_
      refine rhF.iload_n (pc := 49) dX12_takeFirst_49 3 rfl ?_
      refine rhF.imul (pc := 50) dX12_takeFirst_50 ?_
      refine rhF.iconst (pc := 51) (v := 1) dX12_takeFirst_51 (by decide) ?_
      refine rhF.iadd (pc := 52) dX12_takeFirst_52 ?_
      refine rhF.istore (pc := 53) (L' := [(5, rhI _), (0, rhR _), (1, rhI _), (2, rhI _), (3, rhI _), (4, rhI _)]) dX12_takeFirst_53 (by decide) rfl ?_
      refine rhF.iload (pc := 55) dX12_takeFirst_55 0 rfl ?_
      refine rhF.iconst (pc := 57) (v := 1) dX12_takeFirst_57 (by decide) ?_
      refine rhF.iadd (pc := 58) dX12_takeFirst_58 ?_
      refine rhF.aload_n (pc := 59) dX12_takeFirst_59 1 rfl ?_
      refine rhF.ck (fun h11 => ?_)
      refine rhF.get (pc := 60) (rhI _) dX12_takeFirst_60 fl_X12_531 h11 rfl ?_
      refine rhF.icmp_ge (pc := 63) 92 dX12_takeFirst_63 (by decide) (fun h12 => ?_) (fun h12 => ?_)
      · refine rhF.aload_n (pc := 66) dX12_takeFirst_66 1 rfl ?_
        refine rhF.aload_n (pc := 67) dX12_takeFirst_67 1 rfl ?_
        refine rhF.get (pc := 68) (rhR _) dX12_takeFirst_68 fl_X12_151 h11 rfl ?_
        refine rhF.iload (pc := 71) dX12_takeFirst_71 0 rfl ?_
        refine rhF.iconst (pc := 73) (v := 1) dX12_takeFirst_73 (by decide) ?_
        refine rhF.iadd (pc := 74) dX12_takeFirst_74 ?_
        refine rhF.ck (fun h13 => ?_)
        refine rhF.ck (fun h14 => ?_)
        refine rhF.iald (pc := 75) dX12_takeFirst_75 h13 h14 ?_
        refine rhF.aload_n (pc := 76) dX12_takeFirst_76 1 rfl ?_
        refine rhF.get (pc := 77) (rhR _) dX12_takeFirst_77 fl_X12_151 h11 rfl ?_
        refine rhF.iload (pc := 80) dX12_takeFirst_80 0 rfl ?_
        refine rhF.ck (fun h15 => ?_)
        refine rhF.iald (pc := 82) dX12_takeFirst_82 h13 h15 ?_
        refine rhF.callV (pc := 83) (ci := 12) (embc := rhe0I _ _) [rhI _, rhI _] dX12_takeFirst_83 ml_X12_524 mv_X12_isBefore ⟨_, rfl, rfl⟩ h11 (c_X12_isBefore _ _ _ _ _ _) (by decide) (by decide) rfl (Nat.le_of_ble_eq_true rfl) (fun r16 _ => ?_)
        refine rhF.if_eq (pc := 86) 92 dX12_takeFirst_86 (by decide) (fun h17 => ?_) (fun h17 => ?_)
        · refine rhF.sub [1, 2, 3, 4, 0] rfl ?_
          exact (b_X12_takeFirst_92 ih) _ _ _ _ _ _
        · refine rhF.iinc (pc := 89) (L' := [(5, rhI _), (0, rhR _), (1, rhI _), (2, rhI _), (3, rhI _), (4, rhI _)]) dX12_takeFirst_89 0 rfl rfl (by decide) rfl ?_
          refine rhF.sub [1, 2, 3, 4, 0] rfl ?_
          exact (b_X12_takeFirst_92 ih) _ _ _ _ _ _
      · refine rhF.sub [1, 2, 3, 4, 0] rfl ?_
        exact (b_X12_takeFirst_92 ih) _ _ _ _ _ _
set_option maxHeartbeats 4000000 in
set_option maxRecDepth 100000 in
theorem b_X12_takeFirst_162 {E : rhE} {Γ : rhG} : ∀ (M : rhM) (v0 : Nat) (v1 : Int32), rhF E 5 6 yX12_takeFirst cX12_takeFirst (some .int) Γ (rhe1I Γ) (f_X12_takeFirst_162 Γ M v0 v1) 162 [(0, rhR v0), (1, rhI v1)] [] Γ M := by
  intro M v0 v1
  rw [f_X12_takeFirst_162]
  refine rhF.aload_n (pc := 162) dX12_takeFirst_162 0 rfl ?_
  refine rhF.ck (fun h33 => ?_)
  refine rhF.get (pc := 163) (rhR _) dX12_takeFirst_163 fl_X12_154 h33 rfl ?_
  refine rhF.iload_n (pc := 166) dX12_takeFirst_166 1 rfl ?_
  refine rhF.iconst (pc := 167) (v := (-1)) dX12_takeFirst_167 (by decide) ?_
  refine rhF.ck (fun h34 => ?_)
  refine rhF.ck (fun h35 => ?_)
  refine rhF.iast (pc := 168) dX12_takeFirst_168 h34 h35 ?_
  refine rhF.iload_n (pc := 169) dX12_takeFirst_169 1 rfl ?_
  exact rhF.zret (pc := 170) dX12_takeFirst_170 rfl rfl rfl
set_option maxHeartbeats 4000000 in
set_option maxRecDepth 100000 in
theorem b_X12_takeFirst_149 {E : rhE} {Γ : rhG} : ∀ (M : rhM) (v0 : Nat) (v1 : Int32) (v2 : Int32) (v3 : Int32), rhF E 5 6 yX12_takeFirst cX12_takeFirst (some .int) Γ (rhe1I Γ) (f_X12_takeFirst_149 Γ M v0 v1 v2 v3) 149 [(0, rhR v0), (1, rhI v1), (2, rhI v2), (3, rhI v3)] [] Γ M := by
  intro M v0 v1 v2 v3
  rw [f_X12_takeFirst_149]
  refine rhF.aload_n (pc := 149) dX12_takeFirst_149 0 rfl ?_
  refine rhF.ck (fun h30 => ?_)
  refine rhF.get (pc := 150) (rhI _) dX12_takeFirst_150 fl_X12_531 h30 rfl ?_
  refine rhF.if_le (pc := 153) 162 dX12_takeFirst_153 (by decide) (fun h31 => ?_) (fun h31 => ?_)
  · refine rhF.aload_n (pc := 156) dX12_takeFirst_156 0 rfl ?_
    refine rhF.iload_n (pc := 157) dX12_takeFirst_157 3 rfl ?_
    refine rhF.iload_n (pc := 158) dX12_takeFirst_158 2 rfl ?_
    refine rhF.callV (pc := 159) (ci := 12) (embc := rhe1U _) [rhI _, rhI _] dX12_takeFirst_159 ml_X12_528 mv_X12_put ⟨_, rfl, rfl⟩ h30 (c_X12_put _ _ _ _ _ _) (by decide) (by decide) rfl (Nat.le_of_ble_eq_true rfl) (fun r32 _ => ?_)
    refine rhF.sub [0, 1] rfl ?_
    exact (b_X12_takeFirst_162) _ _ _
  · refine rhF.sub [0, 1] rfl ?_
    exact (b_X12_takeFirst_162) _ _ _
set_option maxHeartbeats 4000000 in
set_option maxRecDepth 100000 in
theorem b_X12_takeFirst_41 {E : rhE} {Γ : rhG} : ∀ (M : rhM) (v0 : Nat) (v1 : Int32) (v2 : Int32) (v3 : Int32) (s0 : Int32), rhF E 5 6 yX12_takeFirst cX12_takeFirst (some .int) Γ (rhe1I Γ) (f_X12_takeFirst_41 Γ M v0 v1 v2 v3 s0) 41 [(0, rhR v0), (1, rhI v1), (2, rhI v2), (3, rhI v3)] [rhI s0] Γ M := by
  intro M v0 v1 v2 v3 s0
  rw [f_X12_takeFirst_41]
  refine rhF.istore (pc := 41) (L' := [(4, rhI _), (0, rhR _), (1, rhI _), (2, rhI _), (3, rhI _)]) dX12_takeFirst_41 (by decide) rfl ?_
  refine rhF.sub [1, 2, 3, 4, 0] rfl ?_
  exact (b_X12_takeFirst_43 (b_X12_takeFirst_149) rhFU) _ _ _ _ _ _
set_option maxHeartbeats 4000000 in
set_option maxRecDepth 100000 in
theorem b_X12_takeFirst {E : rhE} {Γ : rhG} : ∀ (M : rhM) (v0 : Nat), rhF E 5 6 yX12_takeFirst cX12_takeFirst (some .int) Γ (rhe1I Γ) (f_X12_takeFirst Γ M v0) 0 [(0, rhR v0)] [] Γ M := by
  intro M v0
  rw [f_X12_takeFirst]
  refine rhF.aload_n (pc := 0) dX12_takeFirst_0 0 rfl ?_
  refine rhF.ck (fun h1 => ?_)
  refine rhF.get (pc := 1) (rhR _) dX12_takeFirst_1 fl_X12_151 h1 rfl ?_
  refine rhF.iconst (pc := 4) (v := 0) dX12_takeFirst_4 (by decide) ?_
  refine rhF.ck (fun h2 => ?_)
  refine rhF.ck (fun h3 => ?_)
  refine rhF.iald (pc := 5) dX12_takeFirst_5 h2 h3 ?_
  refine rhF.istore_n (pc := 6) (L' := [(1, rhI _), (0, rhR _)]) dX12_takeFirst_6 (by decide) rfl ?_
  refine rhF.aload_n (pc := 7) dX12_takeFirst_7 1 rfl ?_
  refine rhF.dupr (pc := 8) dX12_takeFirst_8 ?_
  refine rhF.get (pc := 9) (rhI _) dX12_takeFirst_9 fl_X12_531 h1 rfl ?_
  refine rhF.iconst (pc := 12) (v := 1) dX12_takeFirst_12 (by decide) ?_
  refine rhF.isub (pc := 13) dX12_takeFirst_13 ?_
  refine rhF.puti (pc := 14) dX12_takeFirst_14 fl_X12_531 h1 (fun q hq => by cases hq; exact Or.inl rfl) ⟨rfl, rfl⟩ (fun _ => rfl) ?_
  refine rhF.aload_n (pc := 17) dX12_takeFirst_17 1 rfl ?_
  refine rhF.get (pc := 18) (rhR _) dX12_takeFirst_18 fl_X12_151 h1 rfl ?_
  refine rhF.aload_n (pc := 21) dX12_takeFirst_21 1 rfl ?_
  refine rhF.get (pc := 22) (rhI _) dX12_takeFirst_22 fl_X12_531 h1 rfl ?_
  refine rhF.ck (fun h6 => ?_)
  refine rhF.iald (pc := 25) dX12_takeFirst_25 h2 h6 ?_
  refine rhF.istore_n (pc := 26) (L' := [(2, rhI _), (1, rhI _), (0, rhR _)]) dX12_takeFirst_26 (by decide) rfl ?_
  refine rhF.iconst (pc := 27) (v := 0) dX12_takeFirst_27 (by decide) ?_
  refine rhF.istore_n (pc := 28) (L' := [(3, rhI _), (2, rhI _), (1, rhI _), (0, rhR _)]) dX12_takeFirst_28 (by decide) rfl ?_
  refine rhF.aload_n (pc := 29) dX12_takeFirst_29 3 rfl ?_
  refine rhF.get (pc := 30) (rhI _) dX12_takeFirst_30 fl_X12_531 h1 rfl ?_
  refine rhF.if_le (pc := 33) 40 dX12_takeFirst_33 (by decide) (fun h8 => ?_) (fun h8 => ?_)
  · refine rhF.iconst (pc := 36) (v := 1) dX12_takeFirst_36 (by decide) ?_
    refine rhF.goto (pc := 37) 41 dX12_takeFirst_37 (by decide) ?_
    refine rhF.sub [3, 2, 1, 0] rfl ?_
    exact (b_X12_takeFirst_41) _ _ _ _ _ _
  · refine rhF.iconst (pc := 40) (v := 0) dX12_takeFirst_40 (by decide) ?_
    refine rhF.sub [3, 2, 1, 0] rfl ?_
    exact (b_X12_takeFirst_41) _ _ _ _ _ _
theorem c_X12_takeFirst (E : rhE) (Γ : rhG) (M : rhM) (v0 : Nat) : ∀ a, f_X12_takeFirst Γ M v0 = some a → rhC E 5 yX12_takeFirst cX12_takeFirst 6 (some .int) [rhR v0] Γ M ((rhe1I Γ) a) := rhF.met (by decide +kernel) (Nat.le_of_ble_eq_true rfl) (b_X12_takeFirst M v0)
def f_X12_settle_2 (k21 : rhM → Nat → Option (rhM)) (Γ : rhG) : Nat → rhM → Nat → Int32 → Option (rhM)
  | 0, _, _, _ => none
  | n + 1, M, v0, v1 =>
    if v1 < 246960 then
      (rhck (Γ.2.2.1 v0 = 13) <|
      rhck (Γ.2.2.1 (M.2.2 v0 56) = 15) <|
      rhck (0 ≤ (v1).toInt ∧ (v1).toInt < (Γ.2.2.2 (M.2.2 v0 56) : Nat)) <|
      let M5 := rhsi M (M.2.2 v0 56) (v1 : Int32).toNatClampNeg ((-1))
      let x6 : Int32 := v1 + 1
      f_X12_settle_2 k21 Γ n M5 v0 x6)
    else
      k21 M v0
def f_X12_settle_200 (k128 : rhM → Nat → Int32 → Int32 → Int32 → Int32 → Option (rhM)) (Γ : rhG) (M : rhM) (v0 : Nat) (v1 : Int32) (v2 : Int32) (v3 : Int32) (v4 : Int32) : Option (rhM) :=
  let x37 : Int32 := v4 + 1
  k128 M v0 v1 v2 v3 x37
def f_X12_settle_128 (k206 : rhM → Nat → Int32 → Int32 → Int32 → Option (rhM)) (Γ : rhG) : Nat → rhM → Nat → Int32 → Int32 → Int32 → Int32 → Option (rhM)
  | 0, _, _, _, _, _, _ => none
  | n + 1, M, v0, v1, v2, v3, v4 =>
    rhck (Γ.2.2.1 v0 = 13) <|
    (f_X12_railMany Γ M v0).bind fun r32 =>
    if v4 < r32 then
      ((f_X12_layAt Γ M v0).bind fun r34 =>
      (f_X12_isLawful Γ r34 v0 v2 v3 v4).bind fun r35 =>
      if r35.1 = 0 then
        (f_X12_settle_200 (f_X12_settle_128 k206 Γ n) Γ r35.2 v0 v1 v2 v3 v4)
      else
        (f_X12_sumOf Γ r35.2 v0 (r35.2.2.2 v0 20) v2 v3).bind fun r38 =>
        (f_X12_moves Γ r35.2 v0 v2 v3 v4).bind fun r39 =>
        (f_X12_stateOf Γ r39 v0).bind fun r40 =>
        rhck (Γ.2.2.1 (r39.2.2 v0 57) = 15) <|
        rhck (0 ≤ (v1).toInt ∧ (v1).toInt < (Γ.2.2.2 (r39.2.2 v0 57) : Nat)) <|
        rhck (Γ.2.2.1 (r39.2.2 v0 56) = 15) <|
        rhck (0 ≤ (v1).toInt ∧ (v1).toInt < (Γ.2.2.2 (r39.2.2 v0 56) : Nat)) <|
        (f_X12_reaches Γ r39 v0 r40 ((r39.1 (r39.2.2 v0 57) v1.toNatClampNeg) + r38) ((r39.1 (r39.2.2 v0 56) v1.toNatClampNeg) + 1)).bind fun r45 =>
        f_X12_settle_200 (f_X12_settle_128 k206 Γ n) Γ r45 v0 v1 v2 v3 v4)
    else
      k206 M v0 v1 v2 v3
def f_X12_settle_206 (k98 : rhM → Nat → Int32 → Int32 → Int32 → Option (rhM)) (Γ : rhG) (M : rhM) (v0 : Nat) (v1 : Int32) (v2 : Int32) (v3 : Int32) : Option (rhM) :=
  let x46 : Int32 := v3 + 1
  k98 M v0 v1 v2 x46
def f_X12_settle_121 (k98 : rhM → Nat → Int32 → Int32 → Int32 → Option (rhM)) (k212 : rhM → Nat → Int32 → Int32 → Option (rhM)) (Γ : rhG) (M : rhM) (v0 : Nat) (v1 : Int32) (v2 : Int32) (v3 : Int32) (s0 : Int32) (s1 : Int32) (s2 : Int32) : Option (rhM) :=
  if (s1 - s2) < s0 then
    (k212 M v0 v1 v2)
  else
    f_X12_settle_128 (f_X12_settle_206 k98 Γ) Γ rhFU M v0 v1 v2 v3 0
def f_X12_settle_98 (k212 : rhM → Nat → Int32 → Int32 → Option (rhM)) (Γ : rhG) : Nat → rhM → Nat → Int32 → Int32 → Int32 → Option (rhM)
  | 0, _, _, _, _, _ => none
  | n + 1, M, v0, v1, v2, v3 =>
    rhck (Γ.2.2.1 v0 = 13) <|
    rhck (Γ.2.2.1 (M.2.2 v0 64) = 15) <|
    rhck (0 ≤ (v2).toInt ∧ (v2).toInt < (Γ.2.2.2 (M.2.2 v0 64) : Nat)) <|
    if v2 = 0 then
      (f_X12_settle_121 (f_X12_settle_98 k212 Γ n) k212 Γ M v0 v1 v2 v3 v3 (M.1 (M.2.2 v0 64) v2.toNatClampNeg) 0)
    else
      rhck (0 ≤ (v2 - 1).toInt ∧ (v2 - 1).toInt < (Γ.2.2.2 (M.2.2 v0 64) : Nat)) <|
      f_X12_settle_121 (f_X12_settle_98 k212 Γ n) k212 Γ M v0 v1 v2 v3 v3 (M.1 (M.2.2 v0 64) v2.toNatClampNeg) (M.1 (M.2.2 v0 64) (v2 - 1).toNatClampNeg)
def f_X12_settle_212 (k88 : rhM → Nat → Int32 → Int32 → Option (rhM)) (Γ : rhG) (M : rhM) (v0 : Nat) (v1 : Int32) (v2 : Int32) : Option (rhM) :=
  let x48 : Int32 := v2 + 1
  k88 M v0 v1 x48
def f_X12_settle_88 (k218 : rhM → Nat → Option (rhM)) (Γ : rhG) : Nat → rhM → Nat → Int32 → Int32 → Option (rhM)
  | 0, _, _, _, _ => none
  | n + 1, M, v0, v1, v2 =>
    rhck (Γ.2.2.1 v0 = 13) <|
    (f_X12_railMany Γ M v0).bind fun r24 =>
    if v2 < r24 then
      (f_X12_settle_98 (f_X12_settle_212 (f_X12_settle_88 k218 Γ n) Γ) Γ rhFU M v0 v1 v2 1)
    else
      k218 M v0
def f_X12_settle_218 (k45 : rhM → Nat → Option (rhM)) (Γ : rhG) (M : rhM) (v0 : Nat) : Option (rhM) :=
  k45 M v0
def f_X12_settle_45 (Γ : rhG) : Nat → rhM → Nat → Option (rhM)
  | 0, _, _ => none
  | n + 1, M, v0 =>
    rhck (Γ.2.2.1 v0 = 13) <|
    if 0 < (M.1 v0 70) then
      ((f_X12_takeFirst Γ M v0).bind fun r15 =>
      let x16 := r15.1
      rhck (Γ.2.2.1 (r15.2.2.2 v0 69) = 15) <|
      rhck (0 ≤ (r15.2.1 v0 71).toInt ∧ (r15.2.1 v0 71).toInt < (Γ.2.2.2 (r15.2.2.2 v0 69) : Nat)) <|
      let M19 := rhsi r15.2 (r15.2.2.2 v0 69) (r15.2.1 v0 71 : Int32).toNatClampNeg x16
      let M20 := rhsi M19 v0 71 ((M19.1 v0 71) + 1)
      (f_X12_layState Γ M20 v0 x16).bind fun r21 =>
      (f_X12_keepAt Γ r21 v0).bind fun r22 =>
      f_X12_settle_88 (f_X12_settle_218 (f_X12_settle_45 Γ n) Γ) Γ rhFU r22 v0 x16 0)
    else
      some M
def f_X12_settle_21 (Γ : rhG) (M : rhM) (v0 : Nat) : Option (rhM) :=
  rhck (Γ.2.2.1 v0 = 13) <|
  let M8 := rhsi M v0 70 0
  let M9 := rhsi M8 v0 71 0
  (f_X12_layNow Γ M9 v0).bind fun r10 =>
  (f_X12_stateOf Γ r10 v0).bind fun r11 =>
  (f_X12_reaches Γ r10 v0 r11 (0 : Int32) (0 : Int32)).bind fun r12 =>
  f_X12_settle_45 Γ rhFU r12 v0
def f_X12_settle (Γ : rhG) (M : rhM) (v0 : Nat) : Option (rhM) :=
  f_X12_settle_2 (f_X12_settle_21 Γ) Γ rhFU M v0 0
set_option maxHeartbeats 4000000 in
set_option maxRecDepth 100000 in
theorem b_X12_settle_2 {E : rhE} {Γ : rhG} {k21 : rhM → Nat → Option (rhM)} (hk21 : ∀ (M : rhM) (v0 : Nat), rhF E 9 6 yX12_settle cX12_settle none Γ (rhe1U Γ) (k21 M v0) 21 [(0, rhR v0)] [] Γ M) : ∀ (n : Nat) (M : rhM) (v0 : Nat) (v1 : Int32), rhF E 9 6 yX12_settle cX12_settle none Γ (rhe1U Γ) (f_X12_settle_2 k21 Γ n M v0 v1) 2 [(0, rhR v0), (1, rhI v1)] [] Γ M := by
  intro n
  induction n with
  | zero => intro M v0 v1; rw [f_X12_settle_2]; exact rhF.nope
  | succ n ih =>
    intro M v0 v1
    rw [f_X12_settle_2]
    refine rhF.iload_n (pc := 2) dX12_settle_2 1 rfl ?_
    refine rhF.ldc (pc := 3) dX12_settle_3 k_X12_122 ?_
    refine rhF.icmp_ge (pc := 5) 21 dX12_settle_5 (by decide) (fun h1 => ?_) (fun h1 => ?_)
    · refine rhF.aload_n (pc := 8) dX12_settle_8 0 rfl ?_
      refine rhF.ck (fun h2 => ?_)
      refine rhF.get (pc := 9) (rhR _) dX12_settle_9 fl_X12_129 h2 rfl ?_
      refine rhF.iload_n (pc := 12) dX12_settle_12 1 rfl ?_
      refine rhF.iconst (pc := 13) (v := (-1)) dX12_settle_13 (by decide) ?_
      refine rhF.ck (fun h3 => ?_)
      refine rhF.ck (fun h4 => ?_)
      refine rhF.iast (pc := 14) dX12_settle_14 h3 h4 ?_
      refine rhF.iinc (pc := 15) (L' := [(1, rhI _), (0, rhR _)]) dX12_settle_15 1 rfl rfl (by decide) rfl ?_
      refine rhF.goto (pc := 18) 2 dX12_settle_18 (by decide) ?_
      refine rhF.sub [1, 0] rfl ?_
      exact ih _ _ _
    · refine rhF.sub [0] rfl ?_
      exact hk21 _ _
set_option maxHeartbeats 4000000 in
set_option maxRecDepth 100000 in
theorem b_X12_settle_200 {E : rhE} {Γ : rhG} {k128 : rhM → Nat → Int32 → Int32 → Int32 → Int32 → Option (rhM)} (hk128 : ∀ (M : rhM) (v0 : Nat) (v1 : Int32) (v2 : Int32) (v3 : Int32) (v4 : Int32), rhF E 9 6 yX12_settle cX12_settle none Γ (rhe1U Γ) (k128 M v0 v1 v2 v3 v4) 128 [(0, rhR v0), (1, rhI v1), (2, rhI v2), (3, rhI v3), (4, rhI v4)] [] Γ M) : ∀ (M : rhM) (v0 : Nat) (v1 : Int32) (v2 : Int32) (v3 : Int32) (v4 : Int32), rhF E 9 6 yX12_settle cX12_settle none Γ (rhe1U Γ) (f_X12_settle_200 k128 Γ M v0 v1 v2 v3 v4) 200 [(0, rhR v0), (1, rhI v1), (2, rhI v2), (3, rhI v3), (4, rhI v4)] [] Γ M := by
  intro M v0 v1 v2 v3 v4
  rw [f_X12_settle_200]
  refine rhF.iinc (pc := 200) (L' := [(4, rhI _), (0, rhR _), (1, rhI _), (2, rhI _), (3, rhI _)]) dX12_settle_200 4 rfl rfl (by decide) rfl ?_
  refine rhF.goto (pc := 203) 128 dX12_settle_203 (by decide) ?_
  refine rhF.sub [1, 2, 3, 4, 0] rfl ?_
  exact hk128 _ _ _ _ _ _
set_option maxHeartbeats 4000000 in
set_option maxRecDepth 100000 in
theorem b_X12_settle_128 {E : rhE} {Γ : rhG} {k206 : rhM → Nat → Int32 → Int32 → Int32 → Option (rhM)} (hk206 : ∀ (M : rhM) (v0 : Nat) (v1 : Int32) (v2 : Int32) (v3 : Int32), rhF E 9 6 yX12_settle cX12_settle none Γ (rhe1U Γ) (k206 M v0 v1 v2 v3) 206 [(0, rhR v0), (1, rhI v1), (2, rhI v2), (3, rhI v3)] [] Γ M) : ∀ (n : Nat) (M : rhM) (v0 : Nat) (v1 : Int32) (v2 : Int32) (v3 : Int32) (v4 : Int32), rhF E 9 6 yX12_settle cX12_settle none Γ (rhe1U Γ) (f_X12_settle_128 k206 Γ n M v0 v1 v2 v3 v4) 128 [(0, rhR v0), (1, rhI v1), (2, rhI v2), (3, rhI v3), (4, rhI v4)] [] Γ M := by
  intro n
  induction n with
  | zero => intro M v0 v1 v2 v3 v4; rw [f_X12_settle_128]; exact rhF.nope
  | succ n ih =>
    intro M v0 v1 v2 v3 v4
    rw [f_X12_settle_128]
    refine rhF.iload (pc := 128) dX12_settle_128 4 rfl ?_
    refine rhF.aload_n (pc := 130) dX12_settle_130 0 rfl ?_
    refine rhF.ck (fun h31 => ?_)
    refine rhF.callV (pc := 131) (ci := 12) (embc := rhe0I _ _) [] dX12_settle_131 ml_X12_412 mv_X12_railMany ⟨_, rfl, rfl⟩ h31 (c_X12_railMany _ _ _ _) (by decide) (by decide) rfl (Nat.le_of_ble_eq_true rfl) (fun r32 _ => ?_)
    refine rhF.icmp_ge (pc := 134) 206 dX12_settle_134 (by decide) (fun h33 => ?_) (fun h33 => ?_)
    · refine rhF.aload_n (pc := 137) dX12_settle_137 0 rfl ?_
      refine rhF.callV (pc := 138) (ci := 12) (embc := rhe1U _) [] dX12_settle_138 ml_X12_512 mv_X12_layAt ⟨_, rfl, rfl⟩ h31 (c_X12_layAt _ _ _ _) (by decide) (by decide) rfl (Nat.le_of_ble_eq_true rfl) (fun r34 _ => ?_)
      refine rhF.aload_n (pc := 141) dX12_settle_141 0 rfl ?_
      refine rhF.iload_n (pc := 142) dX12_settle_142 2 rfl ?_
      refine rhF.iload_n (pc := 143) dX12_settle_143 3 rfl ?_
      refine rhF.iload (pc := 144) dX12_settle_144 4 rfl ?_
      refine rhF.callV (pc := 146) (ci := 12) (embc := rhe1I _) [rhI _, rhI _, rhI _] dX12_settle_146 ml_X12_471 mv_X12_isLawful ⟨_, rfl, rfl⟩ h31 (c_X12_isLawful _ _ _ _ _ _ _) (by decide) (by decide) rfl (Nat.le_of_ble_eq_true rfl) (fun r35 _ => ?_)
      refine rhF.if_ne (pc := 149) 155 dX12_settle_149 (by decide) (fun h36 => ?_) (fun h36 => ?_)
      · refine rhF.goto (pc := 152) 200 dX12_settle_152 (by decide) ?_
        exact (b_X12_settle_200 ih) _ _ _ _ _ _
      · refine rhF.aload_n (pc := 155) dX12_settle_155 0 rfl ?_
        refine rhF.aload_n (pc := 156) dX12_settle_156 0 rfl ?_
        refine rhF.get (pc := 157) (rhR _) dX12_settle_157 fl_X12_48 h31 rfl ?_
        refine rhF.iload_n (pc := 160) dX12_settle_160 2 rfl ?_
        refine rhF.iload_n (pc := 161) dX12_settle_161 3 rfl ?_
        refine rhF.callV (pc := 162) (ci := 12) (embc := rhe0I _ _) [rhR _, rhI _, rhI _] dX12_settle_162 ml_X12_431 mv_X12_sumOf ⟨_, rfl, rfl⟩ h31 (c_X12_sumOf _ _ _ _ _ _ _) (by decide) (by decide) rfl (Nat.le_of_ble_eq_true rfl) (fun r38 _ => ?_)
        refine rhF.istore (pc := 165) (L' := [(5, rhI _), (0, rhR _), (1, rhI _), (2, rhI _), (3, rhI _), (4, rhI _)]) dX12_settle_165 (by decide) rfl ?_
        refine rhF.aload_n (pc := 167) dX12_settle_167 1 rfl ?_
        refine rhF.iload_n (pc := 168) dX12_settle_168 3 rfl ?_
        refine rhF.iload_n (pc := 169) dX12_settle_169 4 rfl ?_
        refine rhF.iload (pc := 170) dX12_settle_170 5 rfl ?_
        refine rhF.callV (pc := 172) (ci := 12) (embc := rhe1U _) [rhI _, rhI _, rhI _] dX12_settle_172 ml_X12_474 mv_X12_moves ⟨_, rfl, rfl⟩ h31 (c_X12_moves _ _ _ _ _ _ _) (by decide) (by decide) rfl (Nat.le_of_ble_eq_true rfl) (fun r39 _ => ?_)
        refine rhF.aload_n (pc := 175) dX12_settle_175 1 rfl ?_
        refine rhF.aload_n (pc := 176) dX12_settle_176 1 rfl ?_
        refine rhF.callV (pc := 177) (ci := 12) (embc := rhe0I _ _) [] dX12_settle_177 ml_X12_490 mv_X12_stateOf ⟨_, rfl, rfl⟩ h31 (c_X12_stateOf _ _ _ _) (by decide) (by decide) rfl (Nat.le_of_ble_eq_true rfl) (fun r40 _ => ?_)
        refine rhF.aload_n (pc := 180) dX12_settle_180 1 rfl ?_
        refine rhF.get (pc := 181) (rhR _) dX12_settle_181 fl_X12_132 h31 rfl ?_
        refine rhF.iload_n (pc := 184) dX12_settle_184 2 rfl ?_
        refine rhF.ck (fun h41 => ?_)
        refine rhF.ck (fun h42 => ?_)
        refine rhF.iald (pc := 185) dX12_settle_185 h41 h42 ?_
        refine rhF.iload (pc := 186) dX12_settle_186 0 rfl ?_
        refine rhF.iadd (pc := 188) dX12_settle_188 ?_
        refine rhF.aload_n (pc := 189) dX12_settle_189 1 rfl ?_
        refine rhF.get (pc := 190) (rhR _) dX12_settle_190 fl_X12_129 h31 rfl ?_
        refine rhF.iload_n (pc := 193) dX12_settle_193 2 rfl ?_
        refine rhF.ck (fun h43 => ?_)
        refine rhF.ck (fun h44 => ?_)
        refine rhF.iald (pc := 194) dX12_settle_194 h43 h44 ?_
        refine rhF.iconst (pc := 195) (v := 1) dX12_settle_195 (by decide) ?_
        refine rhF.iadd (pc := 196) dX12_settle_196 ?_
        refine rhF.callV (pc := 197) (ci := 12) (embc := rhe1U _) [rhI _, rhI _, rhI _] dX12_settle_197 ml_X12_540 mv_X12_reaches ⟨_, rfl, rfl⟩ h31 (c_X12_reaches _ _ _ _ _ _ _) (by decide) (by decide) rfl (Nat.le_of_ble_eq_true rfl) (fun r45 _ => ?_)
        refine rhF.sub [1, 2, 3, 4, 5] rfl ?_
        exact (b_X12_settle_200 ih) _ _ _ _ _ _
    · refine rhF.sub [0, 1, 2, 3] rfl ?_
      exact hk206 _ _ _ _ _
set_option maxHeartbeats 4000000 in
set_option maxRecDepth 100000 in
theorem b_X12_settle_206 {E : rhE} {Γ : rhG} {k98 : rhM → Nat → Int32 → Int32 → Int32 → Option (rhM)} (hk98 : ∀ (M : rhM) (v0 : Nat) (v1 : Int32) (v2 : Int32) (v3 : Int32), rhF E 9 6 yX12_settle cX12_settle none Γ (rhe1U Γ) (k98 M v0 v1 v2 v3) 98 [(0, rhR v0), (1, rhI v1), (2, rhI v2), (3, rhI v3)] [] Γ M) : ∀ (M : rhM) (v0 : Nat) (v1 : Int32) (v2 : Int32) (v3 : Int32), rhF E 9 6 yX12_settle cX12_settle none Γ (rhe1U Γ) (f_X12_settle_206 k98 Γ M v0 v1 v2 v3) 206 [(0, rhR v0), (1, rhI v1), (2, rhI v2), (3, rhI v3)] [] Γ M := by
  intro M v0 v1 v2 v3
  rw [f_X12_settle_206]
  refine rhF.iinc (pc := 206) (L' := [(3, rhI _), (0, rhR _), (1, rhI _), (2, rhI _)]) dX12_settle_206 3 rfl rfl (by decide) rfl ?_
  refine rhF.goto (pc := 209) 98 dX12_settle_209 (by decide) ?_
  refine rhF.sub [1, 2, 3, 0] rfl ?_
  exact hk98 _ _ _ _ _
set_option maxHeartbeats 4000000 in
set_option maxRecDepth 100000 in
theorem b_X12_settle_121 {E : rhE} {Γ : rhG} {k98 : rhM → Nat → Int32 → Int32 → Int32 → Option (rhM)} {k212 : rhM → Nat → Int32 → Int32 → Option (rhM)} (hk98 : ∀ (M : rhM) (v0 : Nat) (v1 : Int32) (v2 : Int32) (v3 : Int32), rhF E 9 6 yX12_settle cX12_settle none Γ (rhe1U Γ) (k98 M v0 v1 v2 v3) 98 [(0, rhR v0), (1, rhI v1), (2, rhI v2), (3, rhI v3)] [] Γ M) (hk212 : ∀ (M : rhM) (v0 : Nat) (v1 : Int32) (v2 : Int32), rhF E 9 6 yX12_settle cX12_settle none Γ (rhe1U Γ) (k212 M v0 v1 v2) 212 [(0, rhR v0), (1, rhI v1), (2, rhI v2)] [] Γ M) : ∀ (M : rhM) (v0 : Nat) (v1 : Int32) (v2 : Int32) (v3 : Int32) (s0 : Int32) (s1 : Int32) (s2 : Int32), rhF E 9 6 yX12_settle cX12_settle none Γ (rhe1U Γ) (f_X12_settle_121 k98 k212 Γ M v0 v1 v2 v3 s0 s1 s2) 121 [(0, rhR v0), (1, rhI v1), (2, rhI v2), (3, rhI v3)] [rhI s2, rhI s1, rhI s0] Γ M := by
  intro M v0 v1 v2 v3 s0 s1 s2
  rw [f_X12_settle_121]
  refine rhF.isub (pc := 121) dX12_settle_121 ?_
  refine rhF.icmp_gt (pc := 122) 212 dX12_settle_122 (by decide) (fun h30 => ?_) (fun h30 => ?_)
  · refine rhF.sub [0, 1, 2] rfl ?_
    exact hk212 _ _ _ _
  · refine rhF.iconst (pc := 125) (v := 0) dX12_settle_125 (by decide) ?_
    refine rhF.istore (pc := 126) (L' := [(4, rhI _), (0, rhR _), (1, rhI _), (2, rhI _), (3, rhI _)]) dX12_settle_126 (by decide) rfl ?_
    refine rhF.sub [1, 2, 3, 4, 0] rfl ?_
    exact (b_X12_settle_128 (b_X12_settle_206 hk98) rhFU) _ _ _ _ _ _
set_option maxHeartbeats 4000000 in
set_option maxRecDepth 100000 in
theorem b_X12_settle_98 {E : rhE} {Γ : rhG} {k212 : rhM → Nat → Int32 → Int32 → Option (rhM)} (hk212 : ∀ (M : rhM) (v0 : Nat) (v1 : Int32) (v2 : Int32), rhF E 9 6 yX12_settle cX12_settle none Γ (rhe1U Γ) (k212 M v0 v1 v2) 212 [(0, rhR v0), (1, rhI v1), (2, rhI v2)] [] Γ M) : ∀ (n : Nat) (M : rhM) (v0 : Nat) (v1 : Int32) (v2 : Int32) (v3 : Int32), rhF E 9 6 yX12_settle cX12_settle none Γ (rhe1U Γ) (f_X12_settle_98 k212 Γ n M v0 v1 v2 v3) 98 [(0, rhR v0), (1, rhI v1), (2, rhI v2), (3, rhI v3)] [] Γ M := by
  intro n
  induction n with
  | zero => intro M v0 v1 v2 v3; rw [f_X12_settle_98]; exact rhF.nope
  | succ n ih =>
    intro M v0 v1 v2 v3
    rw [f_X12_settle_98]
    refine rhF.iload_n (pc := 98) dX12_settle_98 3 rfl ?_
    refine rhF.aload_n (pc := 99) dX12_settle_99 0 rfl ?_
    refine rhF.ck (fun h26 => ?_)
    refine rhF.get (pc := 100) (rhR _) dX12_settle_100 fl_X12_145 h26 rfl ?_
    refine rhF.iload_n (pc := 103) dX12_settle_103 2 rfl ?_
    refine rhF.ck (fun h27 => ?_)
    refine rhF.ck (fun h28 => ?_)
    refine rhF.iald (pc := 104) dX12_settle_104 h27 h28 ?_
    refine rhF.iload_n (pc := 105) dX12_settle_105 2 rfl ?_
    refine rhF.if_ne (pc := 106) 113 dX12_settle_106 (by decide) (fun h29 => ?_) (fun h29 => ?_)
    · refine rhF.iconst (pc := 109) (v := 0) dX12_settle_109 (by decide) ?_
      refine rhF.goto (pc := 110) 121 dX12_settle_110 (by decide) ?_
      exact (b_X12_settle_121 ih hk212) _ _ _ _ _ _ _ _
    · refine rhF.aload_n (pc := 113) dX12_settle_113 0 rfl ?_
      refine rhF.get (pc := 114) (rhR _) dX12_settle_114 fl_X12_145 h26 rfl ?_
      refine rhF.iload_n (pc := 117) dX12_settle_117 2 rfl ?_
      refine rhF.iconst (pc := 118) (v := 1) dX12_settle_118 (by decide) ?_
      refine rhF.isub (pc := 119) dX12_settle_119 ?_
      refine rhF.ck (fun h47 => ?_)
      refine rhF.iald (pc := 120) dX12_settle_120 h27 h47 ?_
      exact (b_X12_settle_121 ih hk212) _ _ _ _ _ _ _ _
set_option maxHeartbeats 4000000 in
set_option maxRecDepth 100000 in
theorem b_X12_settle_212 {E : rhE} {Γ : rhG} {k88 : rhM → Nat → Int32 → Int32 → Option (rhM)} (hk88 : ∀ (M : rhM) (v0 : Nat) (v1 : Int32) (v2 : Int32), rhF E 9 6 yX12_settle cX12_settle none Γ (rhe1U Γ) (k88 M v0 v1 v2) 88 [(0, rhR v0), (1, rhI v1), (2, rhI v2)] [] Γ M) : ∀ (M : rhM) (v0 : Nat) (v1 : Int32) (v2 : Int32), rhF E 9 6 yX12_settle cX12_settle none Γ (rhe1U Γ) (f_X12_settle_212 k88 Γ M v0 v1 v2) 212 [(0, rhR v0), (1, rhI v1), (2, rhI v2)] [] Γ M := by
  intro M v0 v1 v2
  rw [f_X12_settle_212]
  refine rhF.iinc (pc := 212) (L' := [(2, rhI _), (0, rhR _), (1, rhI _)]) dX12_settle_212 2 rfl rfl (by decide) rfl ?_
  refine rhF.goto (pc := 215) 88 dX12_settle_215 (by decide) ?_
  refine rhF.sub [1, 2, 0] rfl ?_
  exact hk88 _ _ _ _
set_option maxHeartbeats 4000000 in
set_option maxRecDepth 100000 in
theorem b_X12_settle_88 {E : rhE} {Γ : rhG} {k218 : rhM → Nat → Option (rhM)} (hk218 : ∀ (M : rhM) (v0 : Nat), rhF E 9 6 yX12_settle cX12_settle none Γ (rhe1U Γ) (k218 M v0) 218 [(0, rhR v0)] [] Γ M) : ∀ (n : Nat) (M : rhM) (v0 : Nat) (v1 : Int32) (v2 : Int32), rhF E 9 6 yX12_settle cX12_settle none Γ (rhe1U Γ) (f_X12_settle_88 k218 Γ n M v0 v1 v2) 88 [(0, rhR v0), (1, rhI v1), (2, rhI v2)] [] Γ M := by
  intro n
  induction n with
  | zero => intro M v0 v1 v2; rw [f_X12_settle_88]; exact rhF.nope
  | succ n ih =>
    intro M v0 v1 v2
    rw [f_X12_settle_88]
    refine rhF.iload_n (pc := 88) dX12_settle_88 2 rfl ?_
    refine rhF.aload_n (pc := 89) dX12_settle_89 0 rfl ?_
    refine rhF.ck (fun h23 => ?_)
    refine rhF.callV (pc := 90) (ci := 12) (embc := rhe0I _ _) [] dX12_settle_90 ml_X12_412 mv_X12_railMany ⟨_, rfl, rfl⟩ h23 (c_X12_railMany _ _ _ _) (by decide) (by decide) rfl (Nat.le_of_ble_eq_true rfl) (fun r24 _ => ?_)
    refine rhF.icmp_ge (pc := 93) 218 dX12_settle_93 (by decide) (fun h25 => ?_) (fun h25 => ?_)
    · refine rhF.iconst (pc := 96) (v := 1) dX12_settle_96 (by decide) ?_
      refine rhF.istore_n (pc := 97) (L' := [(3, rhI _), (0, rhR _), (1, rhI _), (2, rhI _)]) dX12_settle_97 (by decide) rfl ?_
      refine rhF.sub [1, 2, 3, 0] rfl ?_
      exact (b_X12_settle_98 (b_X12_settle_212 ih) rhFU) _ _ _ _ _
    · refine rhF.sub [0] rfl ?_
      exact hk218 _ _
set_option maxHeartbeats 4000000 in
set_option maxRecDepth 100000 in
theorem b_X12_settle_218 {E : rhE} {Γ : rhG} {k45 : rhM → Nat → Option (rhM)} (hk45 : ∀ (M : rhM) (v0 : Nat), rhF E 9 6 yX12_settle cX12_settle none Γ (rhe1U Γ) (k45 M v0) 45 [(0, rhR v0)] [] Γ M) : ∀ (M : rhM) (v0 : Nat), rhF E 9 6 yX12_settle cX12_settle none Γ (rhe1U Γ) (f_X12_settle_218 k45 Γ M v0) 218 [(0, rhR v0)] [] Γ M := by
  intro M v0
  rw [f_X12_settle_218]
  refine rhF.goto (pc := 218) 45 dX12_settle_218 (by decide) ?_
  exact hk45 _ _
set_option maxHeartbeats 4000000 in
set_option maxRecDepth 100000 in
theorem b_X12_settle_45 {E : rhE} {Γ : rhG} : ∀ (n : Nat) (M : rhM) (v0 : Nat), rhF E 9 6 yX12_settle cX12_settle none Γ (rhe1U Γ) (f_X12_settle_45 Γ n M v0) 45 [(0, rhR v0)] [] Γ M := by
  intro n
  induction n with
  | zero => intro M v0; rw [f_X12_settle_45]; exact rhF.nope
  | succ n ih =>
    intro M v0
    rw [f_X12_settle_45]
    refine rhF.aload_n (pc := 45) dX12_settle_45 0 rfl ?_
    refine rhF.ck (fun h13 => ?_)
    refine rhF.get (pc := 46) (rhI _) dX12_settle_46 fl_X12_531 h13 rfl ?_
    refine rhF.if_le (pc := 49) 221 dX12_settle_49 (by decide) (fun h14 => ?_) (fun h14 => ?_)
    · refine rhF.aload_n (pc := 52) dX12_settle_52 0 rfl ?_
      refine rhF.callV (pc := 53) (ci := 12) (embc := rhe1I _) [] dX12_settle_53 ml_X12_543 mv_X12_takeFirst ⟨_, rfl, rfl⟩ h13 (c_X12_takeFirst _ _ _ _) (by decide) (by decide) rfl (Nat.le_of_ble_eq_true rfl) (fun r15 _ => ?_)
      refine rhF.istore_n (pc := 56) (L' := [(1, rhI _), (0, rhR _)]) dX12_settle_56 (by decide) rfl ?_
      refine rhF.aload_n (pc := 57) dX12_settle_57 1 rfl ?_
      refine rhF.get (pc := 58) (rhR _) dX12_settle_58 fl_X12_157 h13 rfl ?_
      refine rhF.aload_n (pc := 61) dX12_settle_61 1 rfl ?_
      refine rhF.get (pc := 62) (rhI _) dX12_settle_62 fl_X12_537 h13 rfl ?_
      refine rhF.iload_n (pc := 65) dX12_settle_65 0 rfl ?_
      refine rhF.ck (fun h17 => ?_)
      refine rhF.ck (fun h18 => ?_)
      refine rhF.iast (pc := 66) dX12_settle_66 h17 h18 ?_
      refine rhF.aload_n (pc := 67) dX12_settle_67 1 rfl ?_
      refine rhF.dupr (pc := 68) dX12_settle_68 ?_
      refine rhF.get (pc := 69) (rhI _) dX12_settle_69 fl_X12_537 h13 rfl ?_
      refine rhF.iconst (pc := 72) (v := 1) dX12_settle_72 (by decide) ?_
      refine rhF.iadd (pc := 73) dX12_settle_73 ?_
      refine rhF.puti (pc := 74) dX12_settle_74 fl_X12_537 h13 (fun q hq => by cases hq; exact Or.inl rfl) ⟨rfl, rfl⟩ (fun _ => rfl) ?_
      refine rhF.aload_n (pc := 77) dX12_settle_77 1 rfl ?_
      refine rhF.iload_n (pc := 78) dX12_settle_78 0 rfl ?_
      refine rhF.callV (pc := 79) (ci := 12) (embc := rhe1U _) [rhI _] dX12_settle_79 ml_X12_499 mv_X12_layState ⟨_, rfl, rfl⟩ h13 (c_X12_layState _ _ _ _ _) (by decide) (by decide) rfl (Nat.le_of_ble_eq_true rfl) (fun r21 _ => ?_)
      refine rhF.aload_n (pc := 82) dX12_settle_82 1 rfl ?_
      refine rhF.callV (pc := 83) (ci := 12) (embc := rhe1U _) [] dX12_settle_83 ml_X12_509 mv_X12_keepAt ⟨_, rfl, rfl⟩ h13 (c_X12_keepAt _ _ _ _) (by decide) (by decide) rfl (Nat.le_of_ble_eq_true rfl) (fun r22 _ => ?_)
      refine rhF.iconst (pc := 86) (v := 0) dX12_settle_86 (by decide) ?_
      refine rhF.istore_n (pc := 87) (L' := [(2, rhI _), (1, rhI _), (0, rhR _)]) dX12_settle_87 (by decide) rfl ?_
      refine rhF.sub [2, 1, 0] rfl ?_
      exact (b_X12_settle_88 (b_X12_settle_218 ih) rhFU) _ _ _ _
    · exact rhF.vret (pc := 221) dX12_settle_221 rfl rfl
set_option maxHeartbeats 4000000 in
set_option maxRecDepth 100000 in
theorem b_X12_settle_21 {E : rhE} {Γ : rhG} : ∀ (M : rhM) (v0 : Nat), rhF E 9 6 yX12_settle cX12_settle none Γ (rhe1U Γ) (f_X12_settle_21 Γ M v0) 21 [(0, rhR v0)] [] Γ M := by
  intro M v0
  rw [f_X12_settle_21]
  refine rhF.aload_n (pc := 21) dX12_settle_21 0 rfl ?_
  refine rhF.iconst (pc := 22) (v := 0) dX12_settle_22 (by decide) ?_
  refine rhF.ck (fun h7 => ?_)
  refine rhF.puti (pc := 23) dX12_settle_23 fl_X12_531 h7 (fun q hq => by cases hq; exact Or.inl rfl) ⟨rfl, rfl⟩ (fun _ => rfl) ?_
  refine rhF.aload_n (pc := 26) dX12_settle_26 0 rfl ?_
  refine rhF.iconst (pc := 27) (v := 0) dX12_settle_27 (by decide) ?_
  refine rhF.puti (pc := 28) dX12_settle_28 fl_X12_537 h7 (fun q hq => by cases hq; exact Or.inl rfl) ⟨rfl, rfl⟩ (fun _ => rfl) ?_
  refine rhF.aload_n (pc := 31) dX12_settle_31 0 rfl ?_
  refine rhF.callV (pc := 32) (ci := 12) (embc := rhe1U _) [] dX12_settle_32 ml_X12_467 mv_X12_layNow ⟨_, rfl, rfl⟩ h7 (c_X12_layNow _ _ _ _) (by decide) (by decide) rfl (Nat.le_of_ble_eq_true rfl) (fun r10 _ => ?_)
  refine rhF.aload_n (pc := 35) dX12_settle_35 0 rfl ?_
  refine rhF.aload_n (pc := 36) dX12_settle_36 0 rfl ?_
  refine rhF.callV (pc := 37) (ci := 12) (embc := rhe0I _ _) [] dX12_settle_37 ml_X12_490 mv_X12_stateOf ⟨_, rfl, rfl⟩ h7 (c_X12_stateOf _ _ _ _) (by decide) (by decide) rfl (Nat.le_of_ble_eq_true rfl) (fun r11 _ => ?_)
  refine rhF.iconst (pc := 40) (v := 0) dX12_settle_40 (by decide) ?_
  refine rhF.iconst (pc := 41) (v := 0) dX12_settle_41 (by decide) ?_
  refine rhF.callV (pc := 42) (ci := 12) (embc := rhe1U _) [rhI _, rhI _, rhI _] dX12_settle_42 ml_X12_540 mv_X12_reaches ⟨_, rfl, rfl⟩ h7 (c_X12_reaches _ _ _ _ _ _ _) (by decide) (by decide) rfl (Nat.le_of_ble_eq_true rfl) (fun r12 _ => ?_)
  exact (b_X12_settle_45 rhFU) _ _
set_option maxHeartbeats 4000000 in
set_option maxRecDepth 100000 in
theorem b_X12_settle {E : rhE} {Γ : rhG} : ∀ (M : rhM) (v0 : Nat), rhF E 9 6 yX12_settle cX12_settle none Γ (rhe1U Γ) (f_X12_settle Γ M v0) 0 [(0, rhR v0)] [] Γ M := by
  intro M v0
  rw [f_X12_settle]
  refine rhF.iconst (pc := 0) (v := 0) dX12_settle_0 (by decide) ?_
  refine rhF.istore_n (pc := 1) (L' := [(1, rhI _), (0, rhR _)]) dX12_settle_1 (by decide) rfl ?_
  refine rhF.sub [1, 0] rfl ?_
  exact (b_X12_settle_2 (b_X12_settle_21) rhFU) _ _ _
theorem c_X12_settle (E : rhE) (Γ : rhG) (M : rhM) (v0 : Nat) : ∀ a, f_X12_settle Γ M v0 = some a → rhC E 9 yX12_settle cX12_settle 6 none [rhR v0] Γ M ((rhe1U Γ) a) := rhF.met (by decide +kernel) (Nat.le_of_ble_eq_true rfl) (b_X12_settle M v0)
def f_X12_least_64 (k28 : rhM → Nat → Int32 → Int32 → Option (Int32 × rhM)) (Γ : rhG) (M : rhM) (v0 : Nat) (v1 : Int32) (v2 : Int32) : Option (Int32 × rhM) :=
  let x15 : Int32 := v2 + 1
  k28 M v0 v1 x15
def f_X12_least_28 (k70 : rhM → Nat → Int32 → Option (Int32 × rhM)) (Γ : rhG) : Nat → rhM → Nat → Int32 → Int32 → Option (Int32 × rhM)
  | 0, _, _, _, _ => none
  | n + 1, M, v0, v1, v2 =>
    rhck (Γ.2.2.1 v0 = 13) <|
    if v2 < (M.1 v0 71) then
      (if v1 < 0 then
        (rhck (Γ.2.2.1 (M.2.2 v0 69) = 15) <|
        rhck (0 ≤ (v2).toInt ∧ (v2).toInt < (Γ.2.2.2 (M.2.2 v0 69) : Nat)) <|
        (f_X12_layState Γ M v0 (M.1 (M.2.2 v0 69) v2.toNatClampNeg)).bind fun r12 =>
        (f_X12_isEnd Γ r12 v0).bind fun r13 =>
        if r13 = 0 then
          (f_X12_least_64 (f_X12_least_28 k70 Γ n) Γ r12 v0 v1 v2)
        else
          rhck (Γ.2.2.1 (r12.2.2 v0 69) = 15) <|
          rhck (0 ≤ (v2).toInt ∧ (v2).toInt < (Γ.2.2.2 (r12.2.2 v0 69) : Nat)) <|
          let x18 := r12.1 (r12.2.2 v0 69) v2.toNatClampNeg
          f_X12_least_64 (f_X12_least_28 k70 Γ n) Γ r12 v0 x18 v2)
      else
        k70 M v0 v1)
    else
      k70 M v0 v1
def f_X12_least_78 (k104 : rhM → Nat → Int32 → Option (Int32 × rhM)) (Γ : rhG) : Nat → rhM → Nat → Int32 → Int32 → Option (Int32 × rhM)
  | 0, _, _, _, _ => none
  | n + 1, M, v0, v1, v2 =>
    rhck (Γ.2.2.1 v0 = 13) <|
    if v2 < (M.1 v0 71) then
      (rhck (Γ.2.2.1 (M.2.2 v0 69) = 15) <|
      rhck (0 ≤ (v2).toInt ∧ (v2).toInt < (Γ.2.2.2 (M.2.2 v0 69) : Nat)) <|
      rhck (Γ.2.2.1 (M.2.2 v0 59) = 17) <|
      rhck (0 ≤ (M.1 (M.2.2 v0 69) v2.toNatClampNeg).toInt ∧ (M.1 (M.2.2 v0 69) v2.toNatClampNeg).toInt < (Γ.2.2.2 (M.2.2 v0 59) : Nat)) <|
      let M26 := rhsi M (M.2.2 v0 59) (M.1 (M.2.2 v0 69) v2.toNatClampNeg : Int32).toNatClampNeg (vp_nar .boolean 0)
      let x27 : Int32 := v2 + 1
      f_X12_least_78 k104 Γ n M26 v0 v1 x27)
    else
      k104 M v0 v1
def f_X12_least_160 (k168 : rhM → Nat → Int32 → Int32 → Nat → Int32 → Option (Int32 × rhM)) (k173 : rhM → Nat → Int32 → Int32 → Nat → Int32 → Int32 → Option (Int32 × rhM)) (Γ : rhG) (M : rhM) (v0 : Nat) (v1 : Int32) (v2 : Int32) (v3 : Int32) (s0 : Nat) (s1 : Int32) : Option (Int32 × rhM) :=
  rhck (Γ.2.2.1 v0 = 13) <|
  (f_X12_nextTight Γ M v0 v3).bind fun r43 =>
  if r43.1 < 0 then
    (k173 r43.2 v0 v1 v2 s0 s1 0)
  else
    k168 r43.2 v0 v1 v2 s0 s1
def f_X12_least_168 (k173 : rhM → Nat → Int32 → Int32 → Nat → Int32 → Int32 → Option (Int32 × rhM)) (Γ : rhG) (M : rhM) (v0 : Nat) (v1 : Int32) (v2 : Int32) (s0 : Nat) (s1 : Int32) : Option (Int32 × rhM) :=
  k173 M v0 v1 v2 s0 s1 1
def f_X12_least_173 (k174 : rhM → Nat → Int32 → Int32 → Option (Int32 × rhM)) (Γ : rhG) (M : rhM) (v0 : Nat) (v1 : Int32) (v2 : Int32) (s0 : Nat) (s1 : Int32) (s2 : Int32) : Option (Int32 × rhM) :=
  rhck (Γ.2.2.1 s0 = 17) <|
  rhck (0 ≤ (s1).toInt ∧ (s1).toInt < (Γ.2.2.2 s0 : Nat)) <|
  let M47 := rhsi M s0 (s1 : Int32).toNatClampNeg (vp_nar .boolean s2)
  k174 M47 v0 v1 v2
def f_X12_least_174 (k111 : rhM → Nat → Int32 → Int32 → Option (Int32 × rhM)) (Γ : rhG) (M : rhM) (v0 : Nat) (v1 : Int32) (v2 : Int32) : Option (Int32 × rhM) :=
  let x48 : Int32 := v2 + (-1)
  k111 M v0 v1 x48
def f_X12_least_111 (k180 : rhM → Nat → Int32 → Option (Int32 × rhM)) (Γ : rhG) : Nat → rhM → Nat → Int32 → Int32 → Option (Int32 × rhM)
  | 0, _, _, _, _ => none
  | n + 1, M, v0, v1, v2 =>
    if v2 < 0 then
      (k180 M v0 v1)
    else
      rhck (Γ.2.2.1 v0 = 13) <|
      rhck (Γ.2.2.1 (M.2.2 v0 69) = 15) <|
      rhck (0 ≤ (v2).toInt ∧ (v2).toInt < (Γ.2.2.2 (M.2.2 v0 69) : Nat)) <|
      let x34 := M.1 (M.2.2 v0 69) v2.toNatClampNeg
      (f_X12_isBefore Γ M v0 v1 x34).bind fun r35 =>
      if r35 = 0 then
        ((f_X12_layState Γ M v0 x34).bind fun r37 =>
        (f_X12_isBefore Γ r37 v0 x34 v1).bind fun r38 =>
        if r38 = 0 then
          ((f_X12_isEnd Γ r37 v0).bind fun r40 =>
          if r40 = 0 then
            (f_X12_least_160 (f_X12_least_168 (f_X12_least_173 (f_X12_least_174 (f_X12_least_111 k180 Γ n) Γ) Γ) Γ) (f_X12_least_173 (f_X12_least_174 (f_X12_least_111 k180 Γ n) Γ) Γ) Γ r37 v0 v1 v2 x34 (r37.2.2 v0 59) x34)
          else
            f_X12_least_168 (f_X12_least_173 (f_X12_least_174 (f_X12_least_111 k180 Γ n) Γ) Γ) Γ r37 v0 v1 v2 (r37.2.2 v0 59) x34)
        else
          f_X12_least_160 (f_X12_least_168 (f_X12_least_173 (f_X12_least_174 (f_X12_least_111 k180 Γ n) Γ) Γ) Γ) (f_X12_least_173 (f_X12_least_174 (f_X12_least_111 k180 Γ n) Γ) Γ) Γ r37 v0 v1 v2 x34 (r37.2.2 v0 59) x34)
      else
        f_X12_least_174 (f_X12_least_111 k180 Γ n) Γ M v0 v1 v2
def f_X12_least_180 (Γ : rhG) (M : rhM) (v0 : Nat) (v1 : Int32) : Option (Int32 × rhM) :=
  rhck (Γ.2.2.1 v0 = 13) <|
  (f_X12_layLightest Γ M v0).bind fun r50 =>
  rhck (Γ.2.2.1 (r50.2.2 v0 57) = 15) <|
  rhck (0 ≤ (v1).toInt ∧ (v1).toInt < (Γ.2.2.2 (r50.2.2 v0 57) : Nat)) <|
  some ((r50.1 (r50.2.2 v0 57) v1.toNatClampNeg, r50))
def f_X12_least_104 (Γ : rhG) (M : rhM) (v0 : Nat) (v1 : Int32) : Option (Int32 × rhM) :=
  rhck (Γ.2.2.1 v0 = 13) <|
  let x29 := (M.1 v0 71) - 1
  f_X12_least_111 (f_X12_least_180 Γ) Γ rhFU M v0 v1 x29
def f_X12_least_70 (Γ : rhG) (M : rhM) (v0 : Nat) (v1 : Int32) : Option (Int32 × rhM) :=
  if v1 < 0 then
    (some (((-1), M)))
  else
    f_X12_least_78 (f_X12_least_104 Γ) Γ rhFU M v0 v1 0
def f_X12_least (Γ : rhG) (M : rhM) (v0 : Nat) : Option (Int32 × rhM) :=
  rhck (Γ.2.2.1 v0 = 13) <|
  let M2 := rhsi M v0 66 0
  (f_X12_isMany Γ M2 v0).bind fun r3 =>
  if r3 = 0 then
    ((f_X12_settle Γ M2 v0).bind fun r5 =>
    let M6 := rhsi r5 v0 61 0
    f_X12_least_28 (f_X12_least_70 Γ) Γ rhFU M6 v0 ((-1)) 0)
  else
    some (((-2), M2))
set_option maxHeartbeats 4000000 in
set_option maxRecDepth 100000 in
theorem b_X12_least_64 {E : rhE} {Γ : rhG} {k28 : rhM → Nat → Int32 → Int32 → Option (Int32 × rhM)} (hk28 : ∀ (M : rhM) (v0 : Nat) (v1 : Int32) (v2 : Int32), rhF E 11 4 yX12_least cX12_least (some .int) Γ (rhe1I Γ) (k28 M v0 v1 v2) 28 [(0, rhR v0), (1, rhI v1), (2, rhI v2)] [] Γ M) : ∀ (M : rhM) (v0 : Nat) (v1 : Int32) (v2 : Int32), rhF E 11 4 yX12_least cX12_least (some .int) Γ (rhe1I Γ) (f_X12_least_64 k28 Γ M v0 v1 v2) 64 [(0, rhR v0), (1, rhI v1), (2, rhI v2)] [] Γ M := by
  intro M v0 v1 v2
  rw [f_X12_least_64]
  refine rhF.iinc (pc := 64) (L' := [(2, rhI _), (0, rhR _), (1, rhI _)]) dX12_least_64 2 rfl rfl (by decide) rfl ?_
  refine rhF.goto (pc := 67) 28 dX12_least_67 (by decide) ?_
  refine rhF.sub [1, 2, 0] rfl ?_
  exact hk28 _ _ _ _
set_option maxHeartbeats 4000000 in
set_option maxRecDepth 100000 in
theorem b_X12_least_28 {E : rhE} {Γ : rhG} {k70 : rhM → Nat → Int32 → Option (Int32 × rhM)} (hk70 : ∀ (M : rhM) (v0 : Nat) (v1 : Int32), rhF E 11 4 yX12_least cX12_least (some .int) Γ (rhe1I Γ) (k70 M v0 v1) 70 [(0, rhR v0), (1, rhI v1)] [] Γ M) : ∀ (n : Nat) (M : rhM) (v0 : Nat) (v1 : Int32) (v2 : Int32), rhF E 11 4 yX12_least cX12_least (some .int) Γ (rhe1I Γ) (f_X12_least_28 k70 Γ n M v0 v1 v2) 28 [(0, rhR v0), (1, rhI v1), (2, rhI v2)] [] Γ M := by
  intro n
  induction n with
  | zero => intro M v0 v1 v2; rw [f_X12_least_28]; exact rhF.nope
  | succ n ih =>
    intro M v0 v1 v2
    rw [f_X12_least_28]
    refine rhF.iload_n (pc := 28) dX12_least_28 2 rfl ?_
    refine rhF.aload_n (pc := 29) dX12_least_29 0 rfl ?_
    refine rhF.ck (fun h7 => ?_)
    refine rhF.get (pc := 30) (rhI _) dX12_least_30 fl_X12_537 h7 rfl ?_
    refine rhF.icmp_ge (pc := 33) 70 dX12_least_33 (by decide) (fun h8 => ?_) (fun h8 => ?_)
    · refine rhF.iload_n (pc := 36) dX12_least_36 1 rfl ?_
      refine rhF.if_ge (pc := 37) 70 dX12_least_37 (by decide) (fun h9 => ?_) (fun h9 => ?_)
      · refine rhF.aload_n (pc := 40) dX12_least_40 0 rfl ?_
        refine rhF.aload_n (pc := 41) dX12_least_41 0 rfl ?_
        refine rhF.get (pc := 42) (rhR _) dX12_least_42 fl_X12_157 h7 rfl ?_
        refine rhF.iload_n (pc := 45) dX12_least_45 2 rfl ?_
        refine rhF.ck (fun h10 => ?_)
        refine rhF.ck (fun h11 => ?_)
        refine rhF.iald (pc := 46) dX12_least_46 h10 h11 ?_
        refine rhF.callV (pc := 47) (ci := 12) (embc := rhe1U _) [rhI _] dX12_least_47 ml_X12_499 mv_X12_layState ⟨_, rfl, rfl⟩ h7 (c_X12_layState _ _ _ _ _) (by decide) (by decide) rfl (Nat.le_of_ble_eq_true rfl) (fun r12 _ => ?_)
        refine rhF.aload_n (pc := 50) dX12_least_50 0 rfl ?_
        refine rhF.callV (pc := 51) (ci := 12) (embc := rhe0I _ _) [] dX12_least_51 ml_X12_503 mv_X12_isEnd ⟨_, rfl, rfl⟩ h7 (c_X12_isEnd _ _ _ _) (by decide) (by decide) rfl (Nat.le_of_ble_eq_true rfl) (fun r13 _ => ?_)
        refine rhF.if_eq (pc := 54) 64 dX12_least_54 (by decide) (fun h14 => ?_) (fun h14 => ?_)
        · exact (b_X12_least_64 ih) _ _ _ _
        · refine rhF.aload_n (pc := 57) dX12_least_57 0 rfl ?_
          refine rhF.get (pc := 58) (rhR _) dX12_least_58 fl_X12_157 h7 rfl ?_
          refine rhF.iload_n (pc := 61) dX12_least_61 2 rfl ?_
          refine rhF.ck (fun h16 => ?_)
          refine rhF.ck (fun h17 => ?_)
          refine rhF.iald (pc := 62) dX12_least_62 h16 h17 ?_
          refine rhF.istore_n (pc := 63) (L' := [(1, rhI _), (0, rhR _), (2, rhI _)]) dX12_least_63 (by decide) rfl ?_
          refine rhF.sub [1, 0, 2] rfl ?_
          exact (b_X12_least_64 ih) _ _ _ _
      · refine rhF.sub [0, 1] rfl ?_
        exact hk70 _ _ _
    · refine rhF.sub [0, 1] rfl ?_
      exact hk70 _ _ _
set_option maxHeartbeats 4000000 in
set_option maxRecDepth 100000 in
theorem b_X12_least_78 {E : rhE} {Γ : rhG} {k104 : rhM → Nat → Int32 → Option (Int32 × rhM)} (hk104 : ∀ (M : rhM) (v0 : Nat) (v1 : Int32), rhF E 11 4 yX12_least cX12_least (some .int) Γ (rhe1I Γ) (k104 M v0 v1) 104 [(0, rhR v0), (1, rhI v1)] [] Γ M) : ∀ (n : Nat) (M : rhM) (v0 : Nat) (v1 : Int32) (v2 : Int32), rhF E 11 4 yX12_least cX12_least (some .int) Γ (rhe1I Γ) (f_X12_least_78 k104 Γ n M v0 v1 v2) 78 [(0, rhR v0), (1, rhI v1), (2, rhI v2)] [] Γ M := by
  intro n
  induction n with
  | zero => intro M v0 v1 v2; rw [f_X12_least_78]; exact rhF.nope
  | succ n ih =>
    intro M v0 v1 v2
    rw [f_X12_least_78]
    refine rhF.iload_n (pc := 78) dX12_least_78 2 rfl ?_
    refine rhF.aload_n (pc := 79) dX12_least_79 0 rfl ?_
    refine rhF.ck (fun h20 => ?_)
    refine rhF.get (pc := 80) (rhI _) dX12_least_80 fl_X12_537 h20 rfl ?_
    refine rhF.icmp_ge (pc := 83) 104 dX12_least_83 (by decide) (fun h21 => ?_) (fun h21 => ?_)
    · refine rhF.aload_n (pc := 86) dX12_least_86 0 rfl ?_
      refine rhF.get (pc := 87) (rhR _) dX12_least_87 fl_X12_139 h20 rfl ?_
      refine rhF.aload_n (pc := 90) dX12_least_90 0 rfl ?_
      refine rhF.get (pc := 91) (rhR _) dX12_least_91 fl_X12_157 h20 rfl ?_
      refine rhF.iload_n (pc := 94) dX12_least_94 2 rfl ?_
      refine rhF.ck (fun h22 => ?_)
      refine rhF.ck (fun h23 => ?_)
      refine rhF.iald (pc := 95) dX12_least_95 h22 h23 ?_
      refine rhF.iconst (pc := 96) (v := 0) dX12_least_96 (by decide) ?_
      refine rhF.ck (fun h24 => ?_)
      refine rhF.ck (fun h25 => ?_)
      refine rhF.zast (pc := 97) dX12_least_97 h24 h25 ?_
      refine rhF.iinc (pc := 98) (L' := [(2, rhI _), (0, rhR _), (1, rhI _)]) dX12_least_98 2 rfl rfl (by decide) rfl ?_
      refine rhF.goto (pc := 101) 78 dX12_least_101 (by decide) ?_
      refine rhF.sub [1, 2, 0] rfl ?_
      exact ih _ _ _ _
    · refine rhF.sub [0, 1] rfl ?_
      exact hk104 _ _ _
set_option maxHeartbeats 4000000 in
set_option maxRecDepth 100000 in
theorem b_X12_least_160 {E : rhE} {Γ : rhG} {k168 : rhM → Nat → Int32 → Int32 → Nat → Int32 → Option (Int32 × rhM)} {k173 : rhM → Nat → Int32 → Int32 → Nat → Int32 → Int32 → Option (Int32 × rhM)} (hk168 : ∀ (M : rhM) (v0 : Nat) (v1 : Int32) (v2 : Int32) (s0 : Nat) (s1 : Int32), rhF E 11 4 yX12_least cX12_least (some .int) Γ (rhe1I Γ) (k168 M v0 v1 v2 s0 s1) 168 [(0, rhR v0), (1, rhI v1), (2, rhI v2)] [rhI s1, rhR s0] Γ M) (hk173 : ∀ (M : rhM) (v0 : Nat) (v1 : Int32) (v2 : Int32) (s0 : Nat) (s1 : Int32) (s2 : Int32), rhF E 11 4 yX12_least cX12_least (some .int) Γ (rhe1I Γ) (k173 M v0 v1 v2 s0 s1 s2) 173 [(0, rhR v0), (1, rhI v1), (2, rhI v2)] [rhI s2, rhI s1, rhR s0] Γ M) : ∀ (M : rhM) (v0 : Nat) (v1 : Int32) (v2 : Int32) (v3 : Int32) (s0 : Nat) (s1 : Int32), rhF E 11 4 yX12_least cX12_least (some .int) Γ (rhe1I Γ) (f_X12_least_160 k168 k173 Γ M v0 v1 v2 v3 s0 s1) 160 [(0, rhR v0), (1, rhI v1), (2, rhI v2), (3, rhI v3)] [rhI s1, rhR s0] Γ M := by
  intro M v0 v1 v2 v3 s0 s1
  rw [f_X12_least_160]
  refine rhF.aload_n (pc := 160) dX12_least_160 0 rfl ?_
  refine rhF.iload_n (pc := 161) dX12_least_161 3 rfl ?_
  refine rhF.ck (fun h42 => ?_)
  refine rhF.callV (pc := 162) (ci := 12) (embc := rhe1I _) [rhI _] dX12_least_162 ml_X12_549 mv_X12_nextTight ⟨_, rfl, rfl⟩ h42 (c_X12_nextTight _ _ _ _ _) (by decide) (by decide) rfl (Nat.le_of_ble_eq_true rfl) (fun r43 _ => ?_)
  refine rhF.if_lt (pc := 165) 172 dX12_least_165 (by decide) (fun h44 => ?_) (fun h44 => ?_)
  · refine rhF.iconst (pc := 172) (v := 0) dX12_least_172 (by decide) ?_
    refine rhF.sub [0, 1, 2] rfl ?_
    exact hk173 _ _ _ _ _ _ _
  · refine rhF.sub [0, 1, 2] rfl ?_
    exact hk168 _ _ _ _ _ _
set_option maxHeartbeats 4000000 in
set_option maxRecDepth 100000 in
theorem b_X12_least_168 {E : rhE} {Γ : rhG} {k173 : rhM → Nat → Int32 → Int32 → Nat → Int32 → Int32 → Option (Int32 × rhM)} (hk173 : ∀ (M : rhM) (v0 : Nat) (v1 : Int32) (v2 : Int32) (s0 : Nat) (s1 : Int32) (s2 : Int32), rhF E 11 4 yX12_least cX12_least (some .int) Γ (rhe1I Γ) (k173 M v0 v1 v2 s0 s1 s2) 173 [(0, rhR v0), (1, rhI v1), (2, rhI v2)] [rhI s2, rhI s1, rhR s0] Γ M) : ∀ (M : rhM) (v0 : Nat) (v1 : Int32) (v2 : Int32) (s0 : Nat) (s1 : Int32), rhF E 11 4 yX12_least cX12_least (some .int) Γ (rhe1I Γ) (f_X12_least_168 k173 Γ M v0 v1 v2 s0 s1) 168 [(0, rhR v0), (1, rhI v1), (2, rhI v2)] [rhI s1, rhR s0] Γ M := by
  intro M v0 v1 v2 s0 s1
  rw [f_X12_least_168]
  refine rhF.iconst (pc := 168) (v := 1) dX12_least_168 (by decide) ?_
  refine rhF.goto (pc := 169) 173 dX12_least_169 (by decide) ?_
  exact hk173 _ _ _ _ _ _ _
set_option maxHeartbeats 4000000 in
set_option maxRecDepth 100000 in
theorem b_X12_least_173 {E : rhE} {Γ : rhG} {k174 : rhM → Nat → Int32 → Int32 → Option (Int32 × rhM)} (hk174 : ∀ (M : rhM) (v0 : Nat) (v1 : Int32) (v2 : Int32), rhF E 11 4 yX12_least cX12_least (some .int) Γ (rhe1I Γ) (k174 M v0 v1 v2) 174 [(0, rhR v0), (1, rhI v1), (2, rhI v2)] [] Γ M) : ∀ (M : rhM) (v0 : Nat) (v1 : Int32) (v2 : Int32) (s0 : Nat) (s1 : Int32) (s2 : Int32), rhF E 11 4 yX12_least cX12_least (some .int) Γ (rhe1I Γ) (f_X12_least_173 k174 Γ M v0 v1 v2 s0 s1 s2) 173 [(0, rhR v0), (1, rhI v1), (2, rhI v2)] [rhI s2, rhI s1, rhR s0] Γ M := by
  intro M v0 v1 v2 s0 s1 s2
  rw [f_X12_least_173]
  refine rhF.ck (fun h45 => ?_)
  refine rhF.ck (fun h46 => ?_)
  refine rhF.zast (pc := 173) dX12_least_173 h45 h46 ?_
  exact hk174 _ _ _ _
set_option maxHeartbeats 4000000 in
set_option maxRecDepth 100000 in
theorem b_X12_least_174 {E : rhE} {Γ : rhG} {k111 : rhM → Nat → Int32 → Int32 → Option (Int32 × rhM)} (hk111 : ∀ (M : rhM) (v0 : Nat) (v1 : Int32) (v2 : Int32), rhF E 11 4 yX12_least cX12_least (some .int) Γ (rhe1I Γ) (k111 M v0 v1 v2) 111 [(0, rhR v0), (1, rhI v1), (2, rhI v2)] [] Γ M) : ∀ (M : rhM) (v0 : Nat) (v1 : Int32) (v2 : Int32), rhF E 11 4 yX12_least cX12_least (some .int) Γ (rhe1I Γ) (f_X12_least_174 k111 Γ M v0 v1 v2) 174 [(0, rhR v0), (1, rhI v1), (2, rhI v2)] [] Γ M := by
  intro M v0 v1 v2
  rw [f_X12_least_174]
  refine rhF.iinc (pc := 174) (L' := [(2, rhI _), (0, rhR _), (1, rhI _)]) dX12_least_174 2 rfl rfl (by decide) rfl ?_
  refine rhF.goto (pc := 177) 111 dX12_least_177 (by decide) ?_
  refine rhF.sub [1, 2, 0] rfl ?_
  exact hk111 _ _ _ _
set_option maxHeartbeats 4000000 in
set_option maxRecDepth 100000 in
theorem b_X12_least_111 {E : rhE} {Γ : rhG} {k180 : rhM → Nat → Int32 → Option (Int32 × rhM)} (hk180 : ∀ (M : rhM) (v0 : Nat) (v1 : Int32), rhF E 11 4 yX12_least cX12_least (some .int) Γ (rhe1I Γ) (k180 M v0 v1) 180 [(0, rhR v0), (1, rhI v1)] [] Γ M) : ∀ (n : Nat) (M : rhM) (v0 : Nat) (v1 : Int32) (v2 : Int32), rhF E 11 4 yX12_least cX12_least (some .int) Γ (rhe1I Γ) (f_X12_least_111 k180 Γ n M v0 v1 v2) 111 [(0, rhR v0), (1, rhI v1), (2, rhI v2)] [] Γ M := by
  intro n
  induction n with
  | zero => intro M v0 v1 v2; rw [f_X12_least_111]; exact rhF.nope
  | succ n ih =>
    intro M v0 v1 v2
    rw [f_X12_least_111]
    refine rhF.iload_n (pc := 111) dX12_least_111 2 rfl ?_
    refine rhF.if_lt (pc := 112) 180 dX12_least_112 (by decide) (fun h30 => ?_) (fun h30 => ?_)
    · refine rhF.sub [0, 1] rfl ?_
      exact hk180 _ _ _
    · refine rhF.aload_n (pc := 115) dX12_least_115 0 rfl ?_
      refine rhF.ck (fun h31 => ?_)
      refine rhF.get (pc := 116) (rhR _) dX12_least_116 fl_X12_157 h31 rfl ?_
      refine rhF.iload_n (pc := 119) dX12_least_119 2 rfl ?_
      refine rhF.ck (fun h32 => ?_)
      refine rhF.ck (fun h33 => ?_)
      refine rhF.iald (pc := 120) dX12_least_120 h32 h33 ?_
      refine rhF.istore_n (pc := 121) (L' := [(3, rhI _), (0, rhR _), (1, rhI _), (2, rhI _)]) dX12_least_121 (by decide) rfl ?_
      refine rhF.aload_n (pc := 122) dX12_least_122 1 rfl ?_
      refine rhF.iload_n (pc := 123) dX12_least_123 2 rfl ?_
      refine rhF.iload_n (pc := 124) dX12_least_124 0 rfl ?_
      refine rhF.callV (pc := 125) (ci := 12) (embc := rhe0I _ _) [rhI _, rhI _] dX12_least_125 ml_X12_524 mv_X12_isBefore ⟨_, rfl, rfl⟩ h31 (c_X12_isBefore _ _ _ _ _ _) (by decide) (by decide) rfl (Nat.le_of_ble_eq_true rfl) (fun r35 _ => ?_)
      refine rhF.if_eq (pc := 128) 134 dX12_least_128 (by decide) (fun h36 => ?_) (fun h36 => ?_)
      · refine rhF.aload_n (pc := 134) dX12_least_134 1 rfl ?_
        refine rhF.iload_n (pc := 135) dX12_least_135 0 rfl ?_
        refine rhF.callV (pc := 136) (ci := 12) (embc := rhe1U _) [rhI _] dX12_least_136 ml_X12_499 mv_X12_layState ⟨_, rfl, rfl⟩ h31 (c_X12_layState _ _ _ _ _) (by decide) (by decide) rfl (Nat.le_of_ble_eq_true rfl) (fun r37 _ => ?_)
        refine rhF.aload_n (pc := 139) dX12_least_139 1 rfl ?_
        refine rhF.get (pc := 140) (rhR _) dX12_least_140 fl_X12_139 h31 rfl ?_
        refine rhF.iload_n (pc := 143) dX12_least_143 0 rfl ?_
        refine rhF.aload_n (pc := 144) dX12_least_144 1 rfl ?_
        refine rhF.iload_n (pc := 145) dX12_least_145 0 rfl ?_
        refine rhF.iload_n (pc := 146) dX12_least_146 2 rfl ?_
        refine rhF.callV (pc := 147) (ci := 12) (embc := rhe0I _ _) [rhI _, rhI _] dX12_least_147 ml_X12_524 mv_X12_isBefore ⟨_, rfl, rfl⟩ h31 (c_X12_isBefore _ _ _ _ _ _) (by decide) (by decide) rfl (Nat.le_of_ble_eq_true rfl) (fun r38 _ => ?_)
        refine rhF.if_ne (pc := 150) 160 dX12_least_150 (by decide) (fun h39 => ?_) (fun h39 => ?_)
        · refine rhF.aload_n (pc := 153) dX12_least_153 1 rfl ?_
          refine rhF.callV (pc := 154) (ci := 12) (embc := rhe0I _ _) [] dX12_least_154 ml_X12_503 mv_X12_isEnd ⟨_, rfl, rfl⟩ h31 (c_X12_isEnd _ _ _ _) (by decide) (by decide) rfl (Nat.le_of_ble_eq_true rfl) (fun r40 _ => ?_)
          refine rhF.if_ne (pc := 157) 168 dX12_least_157 (by decide) (fun h41 => ?_) (fun h41 => ?_)
          · refine rhF.sub [1, 2, 3, 0] rfl ?_
            exact (b_X12_least_160 (b_X12_least_168 (b_X12_least_173 (b_X12_least_174 ih))) (b_X12_least_173 (b_X12_least_174 ih))) _ _ _ _ _ _ _
          · refine rhF.sub [1, 2, 3] rfl ?_
            exact (b_X12_least_168 (b_X12_least_173 (b_X12_least_174 ih))) _ _ _ _ _ _
        · refine rhF.sub [1, 2, 3, 0] rfl ?_
          exact (b_X12_least_160 (b_X12_least_168 (b_X12_least_173 (b_X12_least_174 ih))) (b_X12_least_173 (b_X12_least_174 ih))) _ _ _ _ _ _ _
      · refine rhF.goto (pc := 131) 174 dX12_least_131 (by decide) ?_
        refine rhF.sub [1, 2, 3] rfl ?_
        exact (b_X12_least_174 ih) _ _ _ _
set_option maxHeartbeats 4000000 in
set_option maxRecDepth 100000 in
theorem b_X12_least_180 {E : rhE} {Γ : rhG} : ∀ (M : rhM) (v0 : Nat) (v1 : Int32), rhF E 11 4 yX12_least cX12_least (some .int) Γ (rhe1I Γ) (f_X12_least_180 Γ M v0 v1) 180 [(0, rhR v0), (1, rhI v1)] [] Γ M := by
  intro M v0 v1
  rw [f_X12_least_180]
  refine rhF.aload_n (pc := 180) dX12_least_180 0 rfl ?_
  refine rhF.ck (fun h49 => ?_)
  refine rhF.callV (pc := 181) (ci := 12) (embc := rhe1U _) [] dX12_least_181 ml_X12_552 mv_X12_layLightest ⟨_, rfl, rfl⟩ h49 (c_X12_layLightest _ _ _ _) (by decide) (by decide) rfl (Nat.le_of_ble_eq_true rfl) (fun r50 _ => ?_)
  refine rhF.aload_n (pc := 184) dX12_least_184 0 rfl ?_
  refine rhF.get (pc := 185) (rhR _) dX12_least_185 fl_X12_132 h49 rfl ?_
  refine rhF.iload_n (pc := 188) dX12_least_188 1 rfl ?_
  refine rhF.ck (fun h51 => ?_)
  refine rhF.ck (fun h52 => ?_)
  refine rhF.iald (pc := 189) dX12_least_189 h51 h52 ?_
  exact rhF.zret (pc := 190) dX12_least_190 rfl rfl rfl
set_option maxHeartbeats 4000000 in
set_option maxRecDepth 100000 in
theorem b_X12_least_104 {E : rhE} {Γ : rhG} : ∀ (M : rhM) (v0 : Nat) (v1 : Int32), rhF E 11 4 yX12_least cX12_least (some .int) Γ (rhe1I Γ) (f_X12_least_104 Γ M v0 v1) 104 [(0, rhR v0), (1, rhI v1)] [] Γ M := by
  intro M v0 v1
  rw [f_X12_least_104]
  refine rhF.aload_n (pc := 104) dX12_least_104 0 rfl ?_
  refine rhF.ck (fun h28 => ?_)
  refine rhF.get (pc := 105) (rhI _) dX12_least_105 fl_X12_537 h28 rfl ?_
  refine rhF.iconst (pc := 108) (v := 1) dX12_least_108 (by decide) ?_
  refine rhF.isub (pc := 109) dX12_least_109 ?_
  refine rhF.istore_n (pc := 110) (L' := [(2, rhI _), (0, rhR _), (1, rhI _)]) dX12_least_110 (by decide) rfl ?_
  refine rhF.sub [1, 2, 0] rfl ?_
  exact (b_X12_least_111 (b_X12_least_180) rhFU) _ _ _ _
set_option maxHeartbeats 4000000 in
set_option maxRecDepth 100000 in
theorem b_X12_least_70 {E : rhE} {Γ : rhG} : ∀ (M : rhM) (v0 : Nat) (v1 : Int32), rhF E 11 4 yX12_least cX12_least (some .int) Γ (rhe1I Γ) (f_X12_least_70 Γ M v0 v1) 70 [(0, rhR v0), (1, rhI v1)] [] Γ M := by
  intro M v0 v1
  rw [f_X12_least_70]
  refine rhF.iload_n (pc := 70) dX12_least_70 1 rfl ?_
  refine rhF.if_ge (pc := 71) 76 dX12_least_71 (by decide) (fun h19 => ?_) (fun h19 => ?_)
  · refine rhF.iconst (pc := 74) (v := (-1)) dX12_least_74 (by decide) ?_
    exact rhF.zret (pc := 75) dX12_least_75 rfl rfl rfl
  · refine rhF.iconst (pc := 76) (v := 0) dX12_least_76 (by decide) ?_
    refine rhF.istore_n (pc := 77) (L' := [(2, rhI _), (0, rhR _), (1, rhI _)]) dX12_least_77 (by decide) rfl ?_
    refine rhF.sub [1, 2, 0] rfl ?_
    exact (b_X12_least_78 (b_X12_least_104) rhFU) _ _ _ _
set_option maxHeartbeats 4000000 in
set_option maxRecDepth 100000 in
theorem b_X12_least {E : rhE} {Γ : rhG} : ∀ (M : rhM) (v0 : Nat), rhF E 11 4 yX12_least cX12_least (some .int) Γ (rhe1I Γ) (f_X12_least Γ M v0) 0 [(0, rhR v0)] [] Γ M := by
  intro M v0
  rw [f_X12_least]
  refine rhF.aload_n (pc := 0) dX12_least_0 0 rfl ?_
  refine rhF.iconst (pc := 1) (v := 0) dX12_least_1 (by decide) ?_
  refine rhF.ck (fun h1 => ?_)
  refine rhF.puti (pc := 2) dX12_least_2 fl_X12_342 h1 (fun q hq => by cases hq; exact Or.inl rfl) ⟨rfl, rfl⟩ (fun _ => rfl) ?_
  refine rhF.aload_n (pc := 5) dX12_least_5 0 rfl ?_
  refine rhF.callV (pc := 6) (ci := 12) (embc := rhe0I _ _) [] dX12_least_6 ml_X12_515 mv_X12_isMany ⟨_, rfl, rfl⟩ h1 (c_X12_isMany _ _ _ _) (by decide) (by decide) rfl (Nat.le_of_ble_eq_true rfl) (fun r3 _ => ?_)
  refine rhF.if_eq (pc := 9) 15 dX12_least_9 (by decide) (fun h4 => ?_) (fun h4 => ?_)
  · refine rhF.aload_n (pc := 15) dX12_least_15 0 rfl ?_
    refine rhF.callV (pc := 16) (ci := 12) (embc := rhe1U _) [] dX12_least_16 ml_X12_546 mv_X12_settle ⟨_, rfl, rfl⟩ h1 (c_X12_settle _ _ _ _) (by decide) (by decide) rfl (Nat.le_of_ble_eq_true rfl) (fun r5 _ => ?_)
    refine rhF.aload_n (pc := 19) dX12_least_19 0 rfl ?_
    refine rhF.iconst (pc := 20) (v := 0) dX12_least_20 (by decide) ?_
    refine rhF.puti (pc := 21) dX12_least_21 fl_X12_481 h1 (fun q hq => by cases hq; exact Or.inl rfl) ⟨rfl, rfl⟩ (fun _ => rfl) ?_
    refine rhF.iconst (pc := 24) (v := (-1)) dX12_least_24 (by decide) ?_
    refine rhF.istore_n (pc := 25) (L' := [(1, rhI _), (0, rhR _)]) dX12_least_25 (by decide) rfl ?_
    refine rhF.iconst (pc := 26) (v := 0) dX12_least_26 (by decide) ?_
    refine rhF.istore_n (pc := 27) (L' := [(2, rhI _), (1, rhI _), (0, rhR _)]) dX12_least_27 (by decide) rfl ?_
    refine rhF.sub [2, 1, 0] rfl ?_
    exact (b_X12_least_28 (b_X12_least_70) rhFU) _ _ _ _
  · refine rhF.bipush (pc := 12) (v := (-2)) dX12_least_12 (by decide) ?_
    exact rhF.zret (pc := 14) dX12_least_14 rfl rfl rfl
theorem c_X12_least (E : rhE) (Γ : rhG) (M : rhM) (v0 : Nat) : ∀ a, f_X12_least Γ M v0 = some a → rhC E 11 yX12_least cX12_least 4 (some .int) [rhR v0] Γ M ((rhe1I Γ) a) := rhF.met (by decide +kernel) (Nat.le_of_ble_eq_true rfl) (b_X12_least M v0)
def f_X12_lies (Γ : rhG) (M : rhM) (v0 : Nat) (v1 : Int32) : Option (Int32) :=
  rhck (Γ.2.2.1 v0 = 13) <|
  (f_X12_isIn Γ M v1 (0 : Int32) ((M.1 v0 66) - 1)).bind fun r2 =>
  if r2 = 0 then
    (some ((-1)))
  else
    rhck (Γ.2.2.1 (M.2.2 v0 65) = 15) <|
    rhck (0 ≤ (v1).toInt ∧ (v1).toInt < (Γ.2.2.2 (M.2.2 v0 65) : Nat)) <|
    some (M.1 (M.2.2 v0 65) v1.toNatClampNeg)
set_option maxHeartbeats 4000000 in
set_option maxRecDepth 100000 in
theorem b_X12_lies {E : rhE} {Γ : rhG} {M : rhM} : ∀ (v0 : Nat) (v1 : Int32), rhF E 5 2 yX12_lies cX12_lies (some .int) Γ (rhe0I Γ M) (f_X12_lies Γ M v0 v1) 0 [(0, rhR v0), (1, rhI v1)] [] Γ M := by
  intro v0 v1
  rw [f_X12_lies]
  refine rhF.iload_n (pc := 0) dX12_lies_0 1 rfl ?_
  refine rhF.iconst (pc := 1) (v := 0) dX12_lies_1 (by decide) ?_
  refine rhF.aload_n (pc := 2) dX12_lies_2 0 rfl ?_
  refine rhF.ck (fun h1 => ?_)
  refine rhF.get (pc := 3) (rhI _) dX12_lies_3 fl_X12_342 h1 rfl ?_
  refine rhF.iconst (pc := 6) (v := 1) dX12_lies_6 (by decide) ?_
  refine rhF.isub (pc := 7) dX12_lies_7 ?_
  refine rhF.callS (pc := 8) (embc := rhe0I _ _) [rhI _, rhI _, rhI _] dX12_lies_8 ml_X12_415 ms_X12_isIn (c_X12_isIn _ _ _ _ _ _) (by decide) (by decide) rfl (Nat.le_of_ble_eq_true rfl) (fun r2 _ => ?_)
  refine rhF.if_eq (pc := 11) 23 dX12_lies_11 (by decide) (fun h3 => ?_) (fun h3 => ?_)
  · refine rhF.iconst (pc := 23) (v := (-1)) dX12_lies_23 (by decide) ?_
    exact rhF.zret (pc := 24) dX12_lies_24 rfl rfl rfl
  · refine rhF.aload_n (pc := 14) dX12_lies_14 0 rfl ?_
    refine rhF.get (pc := 15) (rhR _) dX12_lies_15 fl_X12_148 h1 rfl ?_
    refine rhF.iload_n (pc := 18) dX12_lies_18 1 rfl ?_
    refine rhF.ck (fun h4 => ?_)
    refine rhF.ck (fun h5 => ?_)
    refine rhF.iald (pc := 19) dX12_lies_19 h4 h5 ?_
    refine rhF.goto (pc := 20) 24 dX12_lies_20 (by decide) ?_
    exact rhF.zret (pc := 24) dX12_lies_24 rfl rfl rfl
theorem c_X12_lies (E : rhE) (Γ : rhG) (M : rhM) (v0 : Nat) (v1 : Int32) : ∀ a, f_X12_lies Γ M v0 v1 = some a → rhC E 5 yX12_lies cX12_lies 2 (some .int) [rhR v0, rhI v1] Γ M ((rhe0I Γ M) a) := rhF.met (by decide +kernel) (Nat.le_of_ble_eq_true rfl) (b_X12_lies v0 v1)
def f_X12_on_32 (Γ : rhG) (M : rhM) (v0 : Nat) (v1 : Int32) (v2 : Int32) (s0 : Int32) (s1 : Int32) (s2 : Int32) (s3 : Int32) : Option (Int32) :=
  (f_X12_isIn Γ M s0 s1 ((s2 - s3) - 1)).bind fun r7 =>
  if r7 = 0 then
    (some ((-1)))
  else
    rhck (Γ.2.2.1 v0 = 13) <|
    if v1 = 0 then
      (rhck (Γ.2.2.1 (M.2.2 v0 42) = 15) <|
      rhck (0 ≤ (0 + v2).toInt ∧ (0 + v2).toInt < (Γ.2.2.2 (M.2.2 v0 42) : Nat)) <|
      some (M.1 (M.2.2 v0 42) (0 + v2).toNatClampNeg))
    else
      rhck (Γ.2.2.1 (M.2.2 v0 43) = 15) <|
      rhck (0 ≤ (v1 - 1).toInt ∧ (v1 - 1).toInt < (Γ.2.2.2 (M.2.2 v0 43) : Nat)) <|
      rhck (Γ.2.2.1 (M.2.2 v0 42) = 15) <|
      rhck (0 ≤ ((M.1 (M.2.2 v0 43) (v1 - 1).toNatClampNeg) + v2).toInt ∧ ((M.1 (M.2.2 v0 43) (v1 - 1).toNatClampNeg) + v2).toInt < (Γ.2.2.2 (M.2.2 v0 42) : Nat)) <|
      some (M.1 (M.2.2 v0 42) ((M.1 (M.2.2 v0 43) (v1 - 1).toNatClampNeg) + v2).toNatClampNeg)
def f_X12_on (Γ : rhG) (M : rhM) (v0 : Nat) (v1 : Int32) (v2 : Int32) : Option (Int32) :=
  rhck (Γ.2.2.1 v0 = 13) <|
  (f_X12_isRail Γ M v0 v1).bind fun r2 =>
  if r2 = 0 then
    (some ((-1)))
  else
    rhck (Γ.2.2.1 (M.2.2 v0 43) = 15) <|
    rhck (0 ≤ (v1).toInt ∧ (v1).toInt < (Γ.2.2.2 (M.2.2 v0 43) : Nat)) <|
    if v1 = 0 then
      (f_X12_on_32 Γ M v0 v1 v2 v2 0 (M.1 (M.2.2 v0 43) v1.toNatClampNeg) 0)
    else
      rhck (0 ≤ (v1 - 1).toInt ∧ (v1 - 1).toInt < (Γ.2.2.2 (M.2.2 v0 43) : Nat)) <|
      f_X12_on_32 Γ M v0 v1 v2 v2 0 (M.1 (M.2.2 v0 43) v1.toNatClampNeg) (M.1 (M.2.2 v0 43) (v1 - 1).toNatClampNeg)
set_option maxHeartbeats 4000000 in
set_option maxRecDepth 100000 in
theorem b_X12_on_32 {E : rhE} {Γ : rhG} {M : rhM} : ∀ (v0 : Nat) (v1 : Int32) (v2 : Int32) (s0 : Int32) (s1 : Int32) (s2 : Int32) (s3 : Int32), rhF E 6 3 yX12_on cX12_on (some .int) Γ (rhe0I Γ M) (f_X12_on_32 Γ M v0 v1 v2 s0 s1 s2 s3) 32 [(0, rhR v0), (1, rhI v1), (2, rhI v2)] [rhI s3, rhI s2, rhI s1, rhI s0] Γ M := by
  intro v0 v1 v2 s0 s1 s2 s3
  rw [f_X12_on_32]
  refine rhF.isub (pc := 32) dX12_on_32 ?_
  refine rhF.iconst (pc := 33) (v := 1) dX12_on_33 (by decide) ?_
  refine rhF.isub (pc := 34) dX12_on_34 ?_
  refine rhF.callS (pc := 35) (embc := rhe0I _ _) [rhI _, rhI _, rhI _] dX12_on_35 ml_X12_415 ms_X12_isIn (c_X12_isIn _ _ _ _ _ _) (by decide) (by decide) rfl (Nat.le_of_ble_eq_true rfl) (fun r7 _ => ?_)
  refine rhF.if_eq (pc := 38) 67 dX12_on_38 (by decide) (fun h8 => ?_) (fun h8 => ?_)
  · refine rhF.iconst (pc := 67) (v := (-1)) dX12_on_67 (by decide) ?_
    exact rhF.zret (pc := 68) dX12_on_68 rfl rfl rfl
  · refine rhF.aload_n (pc := 41) dX12_on_41 0 rfl ?_
    refine rhF.ck (fun h9 => ?_)
    refine rhF.get (pc := 42) (rhR _) dX12_on_42 fl_X12_101 h9 rfl ?_
    refine rhF.iload_n (pc := 45) dX12_on_45 1 rfl ?_
    refine rhF.if_ne (pc := 46) 53 dX12_on_46 (by decide) (fun h10 => ?_) (fun h10 => ?_)
    · refine rhF.iconst (pc := 49) (v := 0) dX12_on_49 (by decide) ?_
      refine rhF.goto (pc := 50) 61 dX12_on_50 (by decide) ?_
      refine rhF.iload_n (pc := 61) dX12_on_61 2 rfl ?_
      refine rhF.iadd (pc := 62) dX12_on_62 ?_
      refine rhF.ck (fun h11 => ?_)
      refine rhF.ck (fun h12 => ?_)
      refine rhF.iald (pc := 63) dX12_on_63 h11 h12 ?_
      refine rhF.goto (pc := 64) 68 dX12_on_64 (by decide) ?_
      exact rhF.zret (pc := 68) dX12_on_68 rfl rfl rfl
    · refine rhF.aload_n (pc := 53) dX12_on_53 0 rfl ?_
      refine rhF.get (pc := 54) (rhR _) dX12_on_54 fl_X12_104 h9 rfl ?_
      refine rhF.iload_n (pc := 57) dX12_on_57 1 rfl ?_
      refine rhF.iconst (pc := 58) (v := 1) dX12_on_58 (by decide) ?_
      refine rhF.isub (pc := 59) dX12_on_59 ?_
      refine rhF.ck (fun h13 => ?_)
      refine rhF.ck (fun h14 => ?_)
      refine rhF.iald (pc := 60) dX12_on_60 h13 h14 ?_
      refine rhF.iload_n (pc := 61) dX12_on_61 2 rfl ?_
      refine rhF.iadd (pc := 62) dX12_on_62 ?_
      refine rhF.ck (fun h15 => ?_)
      refine rhF.ck (fun h16 => ?_)
      refine rhF.iald (pc := 63) dX12_on_63 h15 h16 ?_
      refine rhF.goto (pc := 64) 68 dX12_on_64 (by decide) ?_
      exact rhF.zret (pc := 68) dX12_on_68 rfl rfl rfl
set_option maxHeartbeats 4000000 in
set_option maxRecDepth 100000 in
theorem b_X12_on {E : rhE} {Γ : rhG} {M : rhM} : ∀ (v0 : Nat) (v1 : Int32) (v2 : Int32), rhF E 6 3 yX12_on cX12_on (some .int) Γ (rhe0I Γ M) (f_X12_on Γ M v0 v1 v2) 0 [(0, rhR v0), (1, rhI v1), (2, rhI v2)] [] Γ M := by
  intro v0 v1 v2
  rw [f_X12_on]
  refine rhF.aload_n (pc := 0) dX12_on_0 0 rfl ?_
  refine rhF.iload_n (pc := 1) dX12_on_1 1 rfl ?_
  refine rhF.ck (fun h1 => ?_)
  refine rhF.callV (pc := 2) (ci := 12) (embc := rhe0I _ _) [rhI _] dX12_on_2 ml_X12_428 mv_X12_isRail ⟨_, rfl, rfl⟩ h1 (c_X12_isRail _ _ _ _ _) (by decide) (by decide) rfl (Nat.le_of_ble_eq_true rfl) (fun r2 _ => ?_)
  refine rhF.if_eq (pc := 5) 67 dX12_on_5 (by decide) (fun h3 => ?_) (fun h3 => ?_)
  · refine rhF.iconst (pc := 67) (v := (-1)) dX12_on_67 (by decide) ?_
    exact rhF.zret (pc := 68) dX12_on_68 rfl rfl rfl
  · refine rhF.iload_n (pc := 8) dX12_on_8 2 rfl ?_
    refine rhF.iconst (pc := 9) (v := 0) dX12_on_9 (by decide) ?_
    refine rhF.aload_n (pc := 10) dX12_on_10 0 rfl ?_
    refine rhF.get (pc := 11) (rhR _) dX12_on_11 fl_X12_104 h1 rfl ?_
    refine rhF.iload_n (pc := 14) dX12_on_14 1 rfl ?_
    refine rhF.ck (fun h4 => ?_)
    refine rhF.ck (fun h5 => ?_)
    refine rhF.iald (pc := 15) dX12_on_15 h4 h5 ?_
    refine rhF.iload_n (pc := 16) dX12_on_16 1 rfl ?_
    refine rhF.if_ne (pc := 17) 24 dX12_on_17 (by decide) (fun h6 => ?_) (fun h6 => ?_)
    · refine rhF.iconst (pc := 20) (v := 0) dX12_on_20 (by decide) ?_
      refine rhF.goto (pc := 21) 32 dX12_on_21 (by decide) ?_
      exact (b_X12_on_32) _ _ _ _ _ _ _
    · refine rhF.aload_n (pc := 24) dX12_on_24 0 rfl ?_
      refine rhF.get (pc := 25) (rhR _) dX12_on_25 fl_X12_104 h1 rfl ?_
      refine rhF.iload_n (pc := 28) dX12_on_28 1 rfl ?_
      refine rhF.iconst (pc := 29) (v := 1) dX12_on_29 (by decide) ?_
      refine rhF.isub (pc := 30) dX12_on_30 ?_
      refine rhF.ck (fun h17 => ?_)
      refine rhF.iald (pc := 31) dX12_on_31 h4 h17 ?_
      exact (b_X12_on_32) _ _ _ _ _ _ _
theorem c_X12_on (E : rhE) (Γ : rhG) (M : rhM) (v0 : Nat) (v1 : Int32) (v2 : Int32) : ∀ a, f_X12_on Γ M v0 v1 v2 = some a → rhC E 6 yX12_on cX12_on 3 (some .int) [rhR v0, rhI v1, rhI v2] Γ M ((rhe0I Γ M) a) := rhF.met (by decide +kernel) (Nat.le_of_ble_eq_true rfl) (b_X12_on v0 v1 v2)
def f_X12_open (Γ : rhG) (M : rhM) (v0 : Nat) : Option (Int32 × rhM) :=
  rhck (Γ.2.2.1 v0 = 13) <|
  let x2 := M.1 v0 53
  let M3 := rhsi M v0 53 0
  some ((x2, M3))
set_option maxHeartbeats 4000000 in
set_option maxRecDepth 100000 in
theorem b_X12_open {E : rhE} {Γ : rhG} : ∀ (M : rhM) (v0 : Nat), rhF E 1 2 yX12_open cX12_open (some .int) Γ (rhe1I Γ) (f_X12_open Γ M v0) 0 [(0, rhR v0)] [] Γ M := by
  intro M v0
  rw [f_X12_open]
  refine rhF.aload_n (pc := 0) dX12_open_0 0 rfl ?_
  refine rhF.ck (fun h1 => ?_)
  refine rhF.get (pc := 1) (rhI _) dX12_open_1 fl_X12_339 h1 rfl ?_
  refine rhF.istore_n (pc := 4) (L' := [(1, rhI _), (0, rhR _)]) dX12_open_4 (by decide) rfl ?_
  refine rhF.aload_n (pc := 5) dX12_open_5 1 rfl ?_
  refine rhF.iconst (pc := 6) (v := 0) dX12_open_6 (by decide) ?_
  refine rhF.puti (pc := 7) dX12_open_7 fl_X12_339 h1 (fun q hq => by cases hq; exact Or.inl rfl) ⟨rfl, rfl⟩ (fun _ => rfl) ?_
  refine rhF.iload_n (pc := 10) dX12_open_10 0 rfl ?_
  exact rhF.zret (pc := 11) dX12_open_11 rfl rfl rfl
theorem c_X12_open (E : rhE) (Γ : rhG) (M : rhM) (v0 : Nat) : ∀ a, f_X12_open Γ M v0 = some a → rhC E 1 yX12_open cX12_open 2 (some .int) [rhR v0] Γ M ((rhe1I Γ) a) := rhF.met (by decide +kernel) (Nat.le_of_ble_eq_true rfl) (b_X12_open M v0)
def f_X12_pull (Γ : rhG) (M : rhM) (v0 : Nat) (v1 : Int32) (v2 : Int32) (v3 : Int32) : Option (Int32 × rhM) :=
  rhck (Γ.2.2.1 v0 = 13) <|
  (f_X12_layNow Γ M v0).bind fun r2 =>
  if (r2.1 v0 48) = 300 then
    (some (((-1), r2)))
  else
    (f_X12_isLawful Γ r2 v0 v1 v2 v3).bind fun r4 =>
    if r4.1 = 0 then
      (some (((-1), r4.2)))
    else
      (f_X12_sumOf Γ r4.2 v0 (r4.2.2.2 v0 20) v1 v2).bind fun r6 =>
      rhck (Γ.2.2.1 (r4.2.2.2 v0 47) = 15) <|
      rhck (0 ≤ (r4.2.1 v0 48).toInt ∧ (r4.2.1 v0 48).toInt < (Γ.2.2.2 (r4.2.2.2 v0 47) : Nat)) <|
      let M9 := rhsi r4.2 (r4.2.2.2 v0 47) (r4.2.1 v0 48 : Int32).toNatClampNeg r6
      rhck (0 ≤ (M9.1 v0 48).toInt ∧ (M9.1 v0 48).toInt < (Γ.2.2.2 (r4.2.2.2 v0 47) : Nat)) <|
      let M11 := rhsi M9 v0 49 ((M9.1 v0 49) + (M9.1 (r4.2.2.2 v0 47) (M9.1 v0 48).toNatClampNeg))
      rhck (Γ.2.2.1 (r4.2.2.2 v0 46) = 15) <|
      rhck (0 ≤ (M11.1 v0 48).toInt ∧ (M11.1 v0 48).toInt < (Γ.2.2.2 (r4.2.2.2 v0 46) : Nat)) <|
      let M14 := rhsi M11 (r4.2.2.2 v0 46) (M11.1 v0 48 : Int32).toNatClampNeg (((100 * v1) + (10 * v2)) + v3)
      let M15 := rhsi M14 v0 48 ((M14.1 v0 48) + 1)
      (f_X12_moves Γ M15 v0 v1 v2 v3).bind fun r16 =>
      (f_X12_keepNow Γ r16 v0).bind fun r17 =>
      rhck (Γ.2.2.1 (r17.2.2 v0 47) = 15) <|
      rhck (0 ≤ ((r17.1 v0 48) - 1).toInt ∧ ((r17.1 v0 48) - 1).toInt < (Γ.2.2.2 (r17.2.2 v0 47) : Nat)) <|
      some ((r17.1 (r17.2.2 v0 47) ((r17.1 v0 48) - 1).toNatClampNeg, r17))
set_option maxHeartbeats 4000000 in
set_option maxRecDepth 100000 in
theorem b_X12_pull {E : rhE} {Γ : rhG} : ∀ (M : rhM) (v0 : Nat) (v1 : Int32) (v2 : Int32) (v3 : Int32), rhF E 9 4 yX12_pull cX12_pull (some .int) Γ (rhe1I Γ) (f_X12_pull Γ M v0 v1 v2 v3) 0 [(0, rhR v0), (1, rhI v1), (2, rhI v2), (3, rhI v3)] [] Γ M := by
  intro M v0 v1 v2 v3
  rw [f_X12_pull]
  refine rhF.aload_n (pc := 0) dX12_pull_0 0 rfl ?_
  refine rhF.ck (fun h1 => ?_)
  refine rhF.callV (pc := 1) (ci := 12) (embc := rhe1U _) [] dX12_pull_1 ml_X12_467 mv_X12_layNow ⟨_, rfl, rfl⟩ h1 (c_X12_layNow _ _ _ _) (by decide) (by decide) rfl (Nat.le_of_ble_eq_true rfl) (fun r2 _ => ?_)
  refine rhF.aload_n (pc := 4) dX12_pull_4 0 rfl ?_
  refine rhF.get (pc := 5) (rhI _) dX12_pull_5 fl_X12_458 h1 rfl ?_
  refine rhF.sipush (pc := 8) (v := 300) dX12_pull_8 (by decide) ?_
  refine rhF.icmp_eq (pc := 11) 24 dX12_pull_11 (by decide) (fun h3 => ?_) (fun h3 => ?_)
  · refine rhF.iconst (pc := 24) (v := (-1)) dX12_pull_24 (by decide) ?_
    exact rhF.zret (pc := 25) dX12_pull_25 rfl rfl rfl
  · refine rhF.aload_n (pc := 14) dX12_pull_14 0 rfl ?_
    refine rhF.iload_n (pc := 15) dX12_pull_15 1 rfl ?_
    refine rhF.iload_n (pc := 16) dX12_pull_16 2 rfl ?_
    refine rhF.iload_n (pc := 17) dX12_pull_17 3 rfl ?_
    refine rhF.callV (pc := 18) (ci := 12) (embc := rhe1I _) [rhI _, rhI _, rhI _] dX12_pull_18 ml_X12_471 mv_X12_isLawful ⟨_, rfl, rfl⟩ h1 (c_X12_isLawful _ _ _ _ _ _ _) (by decide) (by decide) rfl (Nat.le_of_ble_eq_true rfl) (fun r4 _ => ?_)
    refine rhF.if_ne (pc := 21) 26 dX12_pull_21 (by decide) (fun h5 => ?_) (fun h5 => ?_)
    · refine rhF.iconst (pc := 24) (v := (-1)) dX12_pull_24 (by decide) ?_
      exact rhF.zret (pc := 25) dX12_pull_25 rfl rfl rfl
    · refine rhF.aload_n (pc := 26) dX12_pull_26 0 rfl ?_
      refine rhF.get (pc := 27) (rhR _) dX12_pull_27 fl_X12_113 h1 rfl ?_
      refine rhF.aload_n (pc := 30) dX12_pull_30 0 rfl ?_
      refine rhF.get (pc := 31) (rhI _) dX12_pull_31 fl_X12_458 h1 rfl ?_
      refine rhF.aload_n (pc := 34) dX12_pull_34 0 rfl ?_
      refine rhF.aload_n (pc := 35) dX12_pull_35 0 rfl ?_
      refine rhF.get (pc := 36) (rhR _) dX12_pull_36 fl_X12_48 h1 rfl ?_
      refine rhF.iload_n (pc := 39) dX12_pull_39 1 rfl ?_
      refine rhF.iload_n (pc := 40) dX12_pull_40 2 rfl ?_
      refine rhF.callV (pc := 41) (ci := 12) (embc := rhe0I _ _) [rhR _, rhI _, rhI _] dX12_pull_41 ml_X12_431 mv_X12_sumOf ⟨_, rfl, rfl⟩ h1 (c_X12_sumOf _ _ _ _ _ _ _) (by decide) (by decide) rfl (Nat.le_of_ble_eq_true rfl) (fun r6 _ => ?_)
      refine rhF.ck (fun h7 => ?_)
      refine rhF.ck (fun h8 => ?_)
      refine rhF.iast (pc := 44) dX12_pull_44 h7 h8 ?_
      refine rhF.aload_n (pc := 45) dX12_pull_45 0 rfl ?_
      refine rhF.dupr (pc := 46) dX12_pull_46 ?_
      refine rhF.get (pc := 47) (rhI _) dX12_pull_47 fl_X12_461 h1 rfl ?_
      refine rhF.aload_n (pc := 50) dX12_pull_50 0 rfl ?_
      refine rhF.get (pc := 51) (rhR _) dX12_pull_51 fl_X12_113 h1 rfl ?_
      refine rhF.aload_n (pc := 54) dX12_pull_54 0 rfl ?_
      refine rhF.get (pc := 55) (rhI _) dX12_pull_55 fl_X12_458 h1 rfl ?_
      refine rhF.ck (fun h10 => ?_)
      refine rhF.iald (pc := 58) dX12_pull_58 h7 h10 ?_
      refine rhF.iadd (pc := 59) dX12_pull_59 ?_
      refine rhF.puti (pc := 60) dX12_pull_60 fl_X12_461 h1 (fun q hq => by cases hq; exact Or.inl rfl) ⟨rfl, rfl⟩ (fun _ => rfl) ?_
      refine rhF.aload_n (pc := 63) dX12_pull_63 0 rfl ?_
      refine rhF.get (pc := 64) (rhR _) dX12_pull_64 fl_X12_110 h1 rfl ?_
      refine rhF.aload_n (pc := 67) dX12_pull_67 0 rfl ?_
      refine rhF.get (pc := 68) (rhI _) dX12_pull_68 fl_X12_458 h1 rfl ?_
      refine rhF.bipush (pc := 71) (v := 100) dX12_pull_71 (by decide) ?_
      refine rhF.iload_n (pc := 73) dX12_pull_73 1 rfl ?_
      refine rhF.imul (pc := 74) dX12_pull_74 ?_
      refine rhF.bipush (pc := 75) (v := 10) dX12_pull_75 (by decide) ?_
      refine rhF.iload_n (pc := 77) dX12_pull_77 2 rfl ?_
      refine rhF.imul (pc := 78) dX12_pull_78 ?_
      refine rhF.iadd (pc := 79) dX12_pull_79 ?_
      refine rhF.iload_n (pc := 80) dX12_pull_80 3 rfl ?_
      refine rhF.iadd (pc := 81) dX12_pull_81 ?_
      refine rhF.ck (fun h12 => ?_)
      refine rhF.ck (fun h13 => ?_)
      refine rhF.iast (pc := 82) dX12_pull_82 h12 h13 ?_
      refine rhF.aload_n (pc := 83) dX12_pull_83 0 rfl ?_
      refine rhF.dupr (pc := 84) dX12_pull_84 ?_
      refine rhF.get (pc := 85) (rhI _) dX12_pull_85 fl_X12_458 h1 rfl ?_
      refine rhF.iconst (pc := 88) (v := 1) dX12_pull_88 (by decide) ?_
      refine rhF.iadd (pc := 89) dX12_pull_89 ?_
      refine rhF.puti (pc := 90) dX12_pull_90 fl_X12_458 h1 (fun q hq => by cases hq; exact Or.inl rfl) ⟨rfl, rfl⟩ (fun _ => rfl) ?_
      refine rhF.aload_n (pc := 93) dX12_pull_93 0 rfl ?_
      refine rhF.iload_n (pc := 94) dX12_pull_94 1 rfl ?_
      refine rhF.iload_n (pc := 95) dX12_pull_95 2 rfl ?_
      refine rhF.iload_n (pc := 96) dX12_pull_96 3 rfl ?_
      refine rhF.callV (pc := 97) (ci := 12) (embc := rhe1U _) [rhI _, rhI _, rhI _] dX12_pull_97 ml_X12_474 mv_X12_moves ⟨_, rfl, rfl⟩ h1 (c_X12_moves _ _ _ _ _ _ _) (by decide) (by decide) rfl (Nat.le_of_ble_eq_true rfl) (fun r16 _ => ?_)
      refine rhF.aload_n (pc := 100) dX12_pull_100 0 rfl ?_
      refine rhF.callV (pc := 101) (ci := 12) (embc := rhe1U _) [] dX12_pull_101 ml_X12_455 mv_X12_keepNow ⟨_, rfl, rfl⟩ h1 (c_X12_keepNow _ _ _ _) (by decide) (by decide) rfl (Nat.le_of_ble_eq_true rfl) (fun r17 _ => ?_)
      refine rhF.aload_n (pc := 104) dX12_pull_104 0 rfl ?_
      refine rhF.get (pc := 105) (rhR _) dX12_pull_105 fl_X12_113 h1 rfl ?_
      refine rhF.aload_n (pc := 108) dX12_pull_108 0 rfl ?_
      refine rhF.get (pc := 109) (rhI _) dX12_pull_109 fl_X12_458 h1 rfl ?_
      refine rhF.iconst (pc := 112) (v := 1) dX12_pull_112 (by decide) ?_
      refine rhF.isub (pc := 113) dX12_pull_113 ?_
      refine rhF.ck (fun h18 => ?_)
      refine rhF.ck (fun h19 => ?_)
      refine rhF.iald (pc := 114) dX12_pull_114 h18 h19 ?_
      exact rhF.zret (pc := 115) dX12_pull_115 rfl rfl rfl
theorem c_X12_pull (E : rhE) (Γ : rhG) (M : rhM) (v0 : Nat) (v1 : Int32) (v2 : Int32) (v3 : Int32) : ∀ a, f_X12_pull Γ M v0 v1 v2 v3 = some a → rhC E 9 yX12_pull cX12_pull 4 (some .int) [rhR v0, rhI v1, rhI v2, rhI v3] Γ M ((rhe1I Γ) a) := rhF.met (by decide +kernel) (Nat.le_of_ble_eq_true rfl) (b_X12_pull M v0 v1 v2 v3)
def f_X12_railHere (Γ : rhG) (M : rhM) (v0 : Nat) : Option (Int32) :=
  rhck (Γ.2.2.1 v0 = 13) <|
  rhck (Γ.2.2.1 (M.2.2 v0 11) = 15) <|
  rhck (0 ≤ (M.1 v0 35).toInt ∧ (M.1 v0 35).toInt < (Γ.2.2.2 (M.2.2 v0 11) : Nat)) <|
  (f_X12_here Γ M v0 (M.2.2 v0 27) (5 * (M.1 v0 35)) (M.1 (M.2.2 v0 11) (M.1 v0 35).toNatClampNeg)).bind fun r4 =>
  some r4
set_option maxHeartbeats 4000000 in
set_option maxRecDepth 100000 in
theorem b_X12_railHere {E : rhE} {Γ : rhG} {M : rhM} : ∀ (v0 : Nat), rhF E 5 1 yX12_railHere cX12_railHere (some .int) Γ (rhe0I Γ M) (f_X12_railHere Γ M v0) 0 [(0, rhR v0)] [] Γ M := by
  intro v0
  rw [f_X12_railHere]
  refine rhF.aload_n (pc := 0) dX12_railHere_0 0 rfl ?_
  refine rhF.aload_n (pc := 1) dX12_railHere_1 0 rfl ?_
  refine rhF.ck (fun h1 => ?_)
  refine rhF.get (pc := 2) (rhR _) dX12_railHere_2 fl_X12_70 h1 rfl ?_
  refine rhF.iconst (pc := 5) (v := 5) dX12_railHere_5 (by decide) ?_
  refine rhF.aload_n (pc := 6) dX12_railHere_6 0 rfl ?_
  refine rhF.get (pc := 7) (rhI _) dX12_railHere_7 fl_X12_318 h1 rfl ?_
  refine rhF.imul (pc := 10) dX12_railHere_10 ?_
  refine rhF.aload_n (pc := 11) dX12_railHere_11 0 rfl ?_
  refine rhF.get (pc := 12) (rhR _) dX12_railHere_12 fl_X12_20 h1 rfl ?_
  refine rhF.aload_n (pc := 15) dX12_railHere_15 0 rfl ?_
  refine rhF.get (pc := 16) (rhI _) dX12_railHere_16 fl_X12_318 h1 rfl ?_
  refine rhF.ck (fun h2 => ?_)
  refine rhF.ck (fun h3 => ?_)
  refine rhF.iald (pc := 19) dX12_railHere_19 h2 h3 ?_
  refine rhF.callV (pc := 20) (ci := 12) (embc := rhe0I _ _) [rhR _, rhI _, rhI _] dX12_railHere_20 ml_X12_360 mv_X12_here ⟨_, rfl, rfl⟩ h1 (c_X12_here _ _ _ _ _ _ _) (by decide) (by decide) rfl (Nat.le_of_ble_eq_true rfl) (fun r4 _ => ?_)
  exact rhF.zret (pc := 23) dX12_railHere_23 rfl rfl rfl
theorem c_X12_railHere (E : rhE) (Γ : rhG) (M : rhM) (v0 : Nat) : ∀ a, f_X12_railHere Γ M v0 = some a → rhC E 5 yX12_railHere cX12_railHere 1 (some .int) [rhR v0] Γ M ((rhe0I Γ M) a) := rhF.met (by decide +kernel) (Nat.le_of_ble_eq_true rfl) (b_X12_railHere v0)
def f_X12_signed_74 (Γ : rhG) (M : rhM) (v0 : Nat) (s0 : Int32) : Option (Int32 × rhM) :=
  rhck (Γ.2.2.1 v0 = 13) <|
  (f_X12_isGood Γ M v0).bind fun r14 =>
  if r14 = 0 then
    (some ((s0, M)))
  else
    (f_X12_goOn Γ M v0).bind fun r16 =>
    some ((s0, r16))
def f_X12_signed_58 (Γ : rhG) (M : rhM) (v0 : Nat) (v3 : Int32) : Option (Int32 × rhM) :=
  if v3 = 0 then
    (rhck (Γ.2.2.1 v0 = 13) <|
    f_X12_signed_74 Γ M v0 (M.1 v0 9))
  else
    rhck (Γ.2.2.1 v0 = 13) <|
    f_X12_signed_74 Γ M v0 (-(M.1 v0 9))
def f_X12_signed_29 (Γ : rhG) (M : rhM) (v0 : Nat) (v1 : Int32) (v2 : Int32) (v3 : Int32) : Option (Int32 × rhM) :=
  rhck (Γ.2.2.1 v0 = 13) <|
  if (M.1 v0 8) = 4 then
    (if v1 < (M.1 v0 9) then
      ((f_X12_fails Γ M v0 (4 : Int32) v2).bind fun r10 =>
      f_X12_signed_58 Γ r10 v0 v3)
    else
      f_X12_signed_58 Γ M v0 v3)
  else
    (f_X12_misplaced Γ M v0).bind fun r18 =>
    f_X12_signed_58 Γ r18 v0 v3
def f_X12_signed (Γ : rhG) (M : rhM) (v0 : Nat) (v1 : Int32) : Option (Int32 × rhM) :=
  rhck (Γ.2.2.1 v0 = 13) <|
  (f_X12_isGood Γ M v0).bind fun r2 =>
  if r2 = 0 then
    (some ((0, M)))
  else
    let x4 := M.1 v0 6
    (f_X12_stands Γ M v0 (45 : Int32)).bind fun r5 =>
    if r5 = 0 then
      (f_X12_signed_29 Γ M v0 v1 x4 r5)
    else
      (f_X12_goOn Γ M v0).bind fun r19 =>
      f_X12_signed_29 Γ r19 v0 v1 x4 r5
set_option maxHeartbeats 4000000 in
set_option maxRecDepth 100000 in
theorem b_X12_signed_74 {E : rhE} {Γ : rhG} : ∀ (M : rhM) (v0 : Nat) (s0 : Int32), rhF E 6 5 yX12_signed cX12_signed (some .int) Γ (rhe1I Γ) (f_X12_signed_74 Γ M v0 s0) 74 [(0, rhR v0)] [rhI s0] Γ M := by
  intro M v0 s0
  rw [f_X12_signed_74]
  refine rhF.istore (pc := 74) (L' := [(4, rhI _), (0, rhR _)]) dX12_signed_74 (by decide) rfl ?_
  refine rhF.aload_n (pc := 76) dX12_signed_76 1 rfl ?_
  refine rhF.ck (fun h13 => ?_)
  refine rhF.callV (pc := 77) (ci := 12) (embc := rhe0I _ _) [] dX12_signed_77 ml_X12_294 mv_X12_isGood ⟨_, rfl, rfl⟩ h13 (c_X12_isGood _ _ _ _) (by decide) (by decide) rfl (Nat.le_of_ble_eq_true rfl) (fun r14 _ => ?_)
  refine rhF.if_eq (pc := 80) 87 dX12_signed_80 (by decide) (fun h15 => ?_) (fun h15 => ?_)
  · refine rhF.iload (pc := 87) dX12_signed_87 0 rfl ?_
    exact rhF.zret (pc := 89) dX12_signed_89 rfl rfl rfl
  · refine rhF.aload_n (pc := 83) dX12_signed_83 1 rfl ?_
    refine rhF.callV (pc := 84) (ci := 12) (embc := rhe1U _) [] dX12_signed_84 ml_X12_298 mv_X12_goOn ⟨_, rfl, rfl⟩ h13 (c_X12_goOn _ _ _ _) (by decide) (by decide) rfl (Nat.le_of_ble_eq_true rfl) (fun r16 _ => ?_)
    refine rhF.iload (pc := 87) dX12_signed_87 0 rfl ?_
    exact rhF.zret (pc := 89) dX12_signed_89 rfl rfl rfl
set_option maxHeartbeats 4000000 in
set_option maxRecDepth 100000 in
theorem b_X12_signed_58 {E : rhE} {Γ : rhG} : ∀ (M : rhM) (v0 : Nat) (v3 : Int32), rhF E 6 5 yX12_signed cX12_signed (some .int) Γ (rhe1I Γ) (f_X12_signed_58 Γ M v0 v3) 58 [(0, rhR v0), (3, rhI v3)] [] Γ M := by
  intro M v0 v3
  rw [f_X12_signed_58]
  refine rhF.iload_n (pc := 58) dX12_signed_58 1 rfl ?_
  refine rhF.if_eq (pc := 59) 70 dX12_signed_59 (by decide) (fun h11 => ?_) (fun h11 => ?_)
  · refine rhF.aload_n (pc := 70) dX12_signed_70 0 rfl ?_
    refine rhF.ck (fun h12 => ?_)
    refine rhF.get (pc := 71) (rhI _) dX12_signed_71 fl_X12_284 h12 rfl ?_
    refine rhF.sub [0] rfl ?_
    exact (b_X12_signed_74) _ _ _
  · refine rhF.aload_n (pc := 62) dX12_signed_62 0 rfl ?_
    refine rhF.ck (fun h17 => ?_)
    refine rhF.get (pc := 63) (rhI _) dX12_signed_63 fl_X12_284 h17 rfl ?_
    refine rhF.ineg (pc := 66) dX12_signed_66 ?_
    refine rhF.goto (pc := 67) 74 dX12_signed_67 (by decide) ?_
    refine rhF.sub [0] rfl ?_
    exact (b_X12_signed_74) _ _ _
set_option maxHeartbeats 4000000 in
set_option maxRecDepth 100000 in
theorem b_X12_signed_29 {E : rhE} {Γ : rhG} : ∀ (M : rhM) (v0 : Nat) (v1 : Int32) (v2 : Int32) (v3 : Int32), rhF E 6 5 yX12_signed cX12_signed (some .int) Γ (rhe1I Γ) (f_X12_signed_29 Γ M v0 v1 v2 v3) 29 [(0, rhR v0), (1, rhI v1), (2, rhI v2), (3, rhI v3)] [] Γ M := by
  intro M v0 v1 v2 v3
  rw [f_X12_signed_29]
  refine rhF.aload_n (pc := 29) dX12_signed_29 0 rfl ?_
  refine rhF.ck (fun h7 => ?_)
  refine rhF.get (pc := 30) (rhI _) dX12_signed_30 fl_X12_266 h7 rfl ?_
  refine rhF.iconst (pc := 33) (v := 4) dX12_signed_33 (by decide) ?_
  refine rhF.icmp_eq (pc := 34) 44 dX12_signed_34 (by decide) (fun h8 => ?_) (fun h8 => ?_)
  · refine rhF.aload_n (pc := 44) dX12_signed_44 0 rfl ?_
    refine rhF.get (pc := 45) (rhI _) dX12_signed_45 fl_X12_284 h7 rfl ?_
    refine rhF.iload_n (pc := 48) dX12_signed_48 1 rfl ?_
    refine rhF.icmp_le (pc := 49) 58 dX12_signed_49 (by decide) (fun h9 => ?_) (fun h9 => ?_)
    · refine rhF.aload_n (pc := 52) dX12_signed_52 0 rfl ?_
      refine rhF.iconst (pc := 53) (v := 4) dX12_signed_53 (by decide) ?_
      refine rhF.iload_n (pc := 54) dX12_signed_54 2 rfl ?_
      refine rhF.callV (pc := 55) (ci := 12) (embc := rhe1U _) [rhI _, rhI _] dX12_signed_55 ml_X12_290 mv_X12_fails ⟨_, rfl, rfl⟩ h7 (c_X12_fails _ _ _ _ _ _) (by decide) (by decide) rfl (Nat.le_of_ble_eq_true rfl) (fun r10 _ => ?_)
      refine rhF.sub [0, 3] rfl ?_
      exact (b_X12_signed_58) _ _ _
    · refine rhF.sub [0, 3] rfl ?_
      exact (b_X12_signed_58) _ _ _
  · refine rhF.aload_n (pc := 37) dX12_signed_37 0 rfl ?_
    refine rhF.callV (pc := 38) (ci := 12) (embc := rhe1U _) [] dX12_signed_38 ml_X12_301 mv_X12_misplaced ⟨_, rfl, rfl⟩ h7 (c_X12_misplaced _ _ _ _) (by decide) (by decide) rfl (Nat.le_of_ble_eq_true rfl) (fun r18 _ => ?_)
    refine rhF.goto (pc := 41) 58 dX12_signed_41 (by decide) ?_
    refine rhF.sub [0, 3] rfl ?_
    exact (b_X12_signed_58) _ _ _
set_option maxHeartbeats 4000000 in
set_option maxRecDepth 100000 in
theorem b_X12_signed {E : rhE} {Γ : rhG} : ∀ (M : rhM) (v0 : Nat) (v1 : Int32), rhF E 6 5 yX12_signed cX12_signed (some .int) Γ (rhe1I Γ) (f_X12_signed Γ M v0 v1) 0 [(0, rhR v0), (1, rhI v1)] [] Γ M := by
  intro M v0 v1
  rw [f_X12_signed]
  refine rhF.aload_n (pc := 0) dX12_signed_0 0 rfl ?_
  refine rhF.ck (fun h1 => ?_)
  refine rhF.callV (pc := 1) (ci := 12) (embc := rhe0I _ _) [] dX12_signed_1 ml_X12_294 mv_X12_isGood ⟨_, rfl, rfl⟩ h1 (c_X12_isGood _ _ _ _) (by decide) (by decide) rfl (Nat.le_of_ble_eq_true rfl) (fun r2 _ => ?_)
  refine rhF.if_ne (pc := 4) 9 dX12_signed_4 (by decide) (fun h3 => ?_) (fun h3 => ?_)
  · refine rhF.iconst (pc := 7) (v := 0) dX12_signed_7 (by decide) ?_
    exact rhF.zret (pc := 8) dX12_signed_8 rfl rfl rfl
  · refine rhF.aload_n (pc := 9) dX12_signed_9 0 rfl ?_
    refine rhF.get (pc := 10) (rhI _) dX12_signed_10 fl_X12_259 h1 rfl ?_
    refine rhF.istore_n (pc := 13) (L' := [(2, rhI _), (0, rhR _), (1, rhI _)]) dX12_signed_13 (by decide) rfl ?_
    refine rhF.aload_n (pc := 14) dX12_signed_14 1 rfl ?_
    refine rhF.bipush (pc := 15) (v := 45) dX12_signed_15 (by decide) ?_
    refine rhF.callV (pc := 17) (ci := 12) (embc := rhe0I _ _) [rhI _] dX12_signed_17 ml_X12_315 mv_X12_stands ⟨_, rfl, rfl⟩ h1 (c_X12_stands _ _ _ _ _) (by decide) (by decide) rfl (Nat.le_of_ble_eq_true rfl) (fun r5 _ => ?_)
    refine rhF.istore_n (pc := 20) (L' := [(3, rhI _), (2, rhI _), (0, rhR _), (1, rhI _)]) dX12_signed_20 (by decide) rfl ?_
    refine rhF.iload_n (pc := 21) dX12_signed_21 0 rfl ?_
    refine rhF.if_eq (pc := 22) 29 dX12_signed_22 (by decide) (fun h6 => ?_) (fun h6 => ?_)
    · refine rhF.sub [2, 3, 1, 0] rfl ?_
      exact (b_X12_signed_29) _ _ _ _ _
    · refine rhF.aload_n (pc := 25) dX12_signed_25 2 rfl ?_
      refine rhF.callV (pc := 26) (ci := 12) (embc := rhe1U _) [] dX12_signed_26 ml_X12_298 mv_X12_goOn ⟨_, rfl, rfl⟩ h1 (c_X12_goOn _ _ _ _) (by decide) (by decide) rfl (Nat.le_of_ble_eq_true rfl) (fun r19 _ => ?_)
      refine rhF.sub [2, 3, 1, 0] rfl ?_
      exact (b_X12_signed_29) _ _ _ _ _
theorem c_X12_signed (E : rhE) (Γ : rhG) (M : rhM) (v0 : Nat) (v1 : Int32) : ∀ a, f_X12_signed Γ M v0 v1 = some a → rhC E 6 yX12_signed cX12_signed 5 (some .int) [rhR v0, rhI v1] Γ M ((rhe1I Γ) a) := rhF.met (by decide +kernel) (Nat.le_of_ble_eq_true rfl) (b_X12_signed M v0 v1)
def f_X12_readBeside_63 (Γ : rhG) (M : rhM) (v0 : Nat) (v1 : Int32) (v2 : Int32) (v3 : Int32) : Option (rhM) :=
  rhck (Γ.2.2.1 v0 = 13) <|
  (f_X12_known Γ M v0 v2).bind fun r10 =>
  let x11 := r10.1
  (f_X12_isWord Γ r10.2 v0 ((512970880104 : Int64))).bind fun r12 =>
  (f_X12_must Γ r10.2 v0 r12).bind fun r13 =>
  (f_X12_signed Γ r13 v0 (99 : Int32)).bind fun r14 =>
  let x15 := r14.1
  (f_X12_isGood Γ r14.2 v0).bind fun r16 =>
  if r16 = 0 then
    (some r14.2)
  else
    rhck (Γ.2.2.1 (r14.2.2.2 v0 22) = 15) <|
    rhck (0 ≤ (v3 + x11).toInt ∧ (v3 + x11).toInt < (Γ.2.2.2 (r14.2.2.2 v0 22) : Nat)) <|
    let M20 := rhsi r14.2 (r14.2.2.2 v0 22) (v3 + x11 : Int32).toNatClampNeg x15
    rhck (0 ≤ (((64 * (M20.1 v0 35)) + (8 * x11)) + v1).toInt ∧ (((64 * (M20.1 v0 35)) + (8 * x11)) + v1).toInt < (Γ.2.2.2 (r14.2.2.2 v0 22) : Nat)) <|
    let M22 := rhsi M20 (r14.2.2.2 v0 22) (((64 * (M20.1 v0 35)) + (8 * x11)) + v1 : Int32).toNatClampNeg x15
    rhck (Γ.2.2.1 (r14.2.2.2 v0 26) = 17) <|
    rhck (0 ≤ (v3 + x11).toInt ∧ (v3 + x11).toInt < (Γ.2.2.2 (r14.2.2.2 v0 26) : Nat)) <|
    let M25 := rhsi M22 (r14.2.2.2 v0 26) (v3 + x11 : Int32).toNatClampNeg (vp_nar .boolean 1)
    rhck (0 ≤ (((64 * (M25.1 v0 35)) + (8 * x11)) + v1).toInt ∧ (((64 * (M25.1 v0 35)) + (8 * x11)) + v1).toInt < (Γ.2.2.2 (r14.2.2.2 v0 26) : Nat)) <|
    let M27 := rhsi M25 (r14.2.2.2 v0 26) (((64 * (M25.1 v0 35)) + (8 * x11)) + v1 : Int32).toNatClampNeg (vp_nar .boolean 1)
    rhck (Γ.2.2.1 (r14.2.2.2 v0 13) = 15) <|
    rhck (0 ≤ (M27.1 v0 35).toInt ∧ (M27.1 v0 35).toInt < (Γ.2.2.2 (r14.2.2.2 v0 13) : Nat)) <|
    let M30 := rhsi M27 (r14.2.2.2 v0 13) (M27.1 v0 35 : Int32).toNatClampNeg ((M27.1 (r14.2.2.2 v0 13) (M27.1 v0 35).toNatClampNeg) + 1)
    some M30
def f_X12_readBeside_54 (k63 : rhM → Nat → Int32 → Int32 → Int32 → Option (rhM)) (Γ : rhG) (M : rhM) (v0 : Nat) (v1 : Int32) (v2 : Int32) (v3 : Int32) : Option (rhM) :=
  rhck (Γ.2.2.1 v0 = 13) <|
  (f_X12_fails Γ M v0 (3 : Int32) (M.1 v0 6)).bind fun r34 =>
  k63 r34 v0 v1 v2 v3
def f_X12_readBeside (Γ : rhG) (M : rhM) (v0 : Nat) : Option (rhM) :=
  rhck (Γ.2.2.1 v0 = 13) <|
  (f_X12_houseHere Γ M v0).bind fun r2 =>
  (f_X12_known Γ M v0 r2).bind fun r3 =>
  let x4 := r3.1
  (f_X12_houseHere Γ r3.2 v0).bind fun r5 =>
  let x6 := (64 * (r3.2.1 v0 35)) + (8 * x4)
  (f_X12_isGood Γ r3.2 v0).bind fun r7 =>
  if r7 = 0 then
    (f_X12_readBeside_63 Γ r3.2 v0 x4 r5 x6)
  else
    if r5 < 0 then
      (f_X12_readBeside_63 Γ r3.2 v0 x4 r5 x6)
    else
      if x4 = r5 then
        (f_X12_readBeside_54 (f_X12_readBeside_63 Γ) Γ r3.2 v0 x4 r5 x6)
      else
        rhck (Γ.2.2.1 (r3.2.2.2 v0 26) = 17) <|
        rhck (0 ≤ (x6 + r5).toInt ∧ (x6 + r5).toInt < (Γ.2.2.2 (r3.2.2.2 v0 26) : Nat)) <|
        if (r3.2.1 (r3.2.2.2 v0 26) (x6 + r5).toNatClampNeg) = 0 then
          (f_X12_readBeside_63 Γ r3.2 v0 x4 r5 x6)
        else
          f_X12_readBeside_54 (f_X12_readBeside_63 Γ) Γ r3.2 v0 x4 r5 x6
set_option maxHeartbeats 4000000 in
set_option maxRecDepth 100000 in
theorem b_X12_readBeside_63 {E : rhE} {Γ : rhG} : ∀ (M : rhM) (v0 : Nat) (v1 : Int32) (v2 : Int32) (v3 : Int32), rhF E 7 5 yX12_readBeside cX12_readBeside none Γ (rhe1U Γ) (f_X12_readBeside_63 Γ M v0 v1 v2 v3) 63 [(0, rhR v0), (1, rhI v1), (2, rhI v2), (3, rhI v3)] [] Γ M := by
  intro M v0 v1 v2 v3
  rw [f_X12_readBeside_63]
  refine rhF.aload_n (pc := 63) dX12_readBeside_63 0 rfl ?_
  refine rhF.iload_n (pc := 64) dX12_readBeside_64 2 rfl ?_
  refine rhF.ck (fun h9 => ?_)
  refine rhF.callV (pc := 65) (ci := 12) (embc := rhe1I _) [rhI _] dX12_readBeside_65 ml_X12_379 mv_X12_known ⟨_, rfl, rfl⟩ h9 (c_X12_known _ _ _ _ _) (by decide) (by decide) rfl (Nat.le_of_ble_eq_true rfl) (fun r10 _ => ?_)
  refine rhF.istore_n (pc := 68) (L' := [(2, rhI _), (0, rhR _), (1, rhI _), (3, rhI _)]) dX12_readBeside_68 (by decide) rfl ?_
  refine rhF.aload_n (pc := 69) dX12_readBeside_69 1 rfl ?_
  refine rhF.aload_n (pc := 70) dX12_readBeside_70 1 rfl ?_
  refine rhF.ldc2 (pc := 71) dX12_readBeside_71 k_X12_232 ?_
  refine rhF.callV (pc := 74) (ci := 12) (embc := rhe0I _ _) [rhJ _] dX12_readBeside_74 ml_X12_304 mv_X12_isWord ⟨_, rfl, rfl⟩ h9 (c_X12_isWord _ _ _ _ _) (by decide) (by decide) rfl (Nat.le_of_ble_eq_true rfl) (fun r12 _ => ?_)
  refine rhF.callV (pc := 77) (ci := 12) (embc := rhe1U _) [rhI _] dX12_readBeside_77 ml_X12_307 mv_X12_must ⟨_, rfl, rfl⟩ h9 (c_X12_must _ _ _ _ _) (by decide) (by decide) rfl (Nat.le_of_ble_eq_true rfl) (fun r13 _ => ?_)
  refine rhF.aload_n (pc := 80) dX12_readBeside_80 1 rfl ?_
  refine rhF.bipush (pc := 81) (v := 99) dX12_readBeside_81 (by decide) ?_
  refine rhF.callV (pc := 83) (ci := 12) (embc := rhe1I _) [rhI _] dX12_readBeside_83 ml_X12_382 mv_X12_signed ⟨_, rfl, rfl⟩ h9 (c_X12_signed _ _ _ _ _) (by decide) (by decide) rfl (Nat.le_of_ble_eq_true rfl) (fun r14 _ => ?_)
  refine rhF.istore (pc := 86) (L' := [(4, rhI _), (2, rhI _), (0, rhR _), (1, rhI _), (3, rhI _)]) dX12_readBeside_86 (by decide) rfl ?_
  refine rhF.aload_n (pc := 88) dX12_readBeside_88 2 rfl ?_
  refine rhF.callV (pc := 89) (ci := 12) (embc := rhe0I _ _) [] dX12_readBeside_89 ml_X12_294 mv_X12_isGood ⟨_, rfl, rfl⟩ h9 (c_X12_isGood _ _ _ _) (by decide) (by decide) rfl (Nat.le_of_ble_eq_true rfl) (fun r16 _ => ?_)
  refine rhF.if_ne (pc := 92) 96 dX12_readBeside_92 (by decide) (fun h17 => ?_) (fun h17 => ?_)
  · exact rhF.vret (pc := 95) dX12_readBeside_95 rfl rfl
  · refine rhF.aload_n (pc := 96) dX12_readBeside_96 2 rfl ?_
    refine rhF.get (pc := 97) (rhR _) dX12_readBeside_97 fl_X12_54 h9 rfl ?_
    refine rhF.iload_n (pc := 100) dX12_readBeside_100 4 rfl ?_
    refine rhF.iload_n (pc := 101) dX12_readBeside_101 1 rfl ?_
    refine rhF.iadd (pc := 102) dX12_readBeside_102 ?_
    refine rhF.iload (pc := 103) dX12_readBeside_103 0 rfl ?_
    refine rhF.ck (fun h18 => ?_)
    refine rhF.ck (fun h19 => ?_)
    refine rhF.iast (pc := 105) dX12_readBeside_105 h18 h19 ?_
    refine rhF.aload_n (pc := 106) dX12_readBeside_106 2 rfl ?_
    refine rhF.get (pc := 107) (rhR _) dX12_readBeside_107 fl_X12_54 h9 rfl ?_
    refine rhF.bipush (pc := 110) (v := 64) dX12_readBeside_110 (by decide) ?_
    refine rhF.aload_n (pc := 112) dX12_readBeside_112 2 rfl ?_
    refine rhF.get (pc := 113) (rhI _) dX12_readBeside_113 fl_X12_318 h9 rfl ?_
    refine rhF.imul (pc := 116) dX12_readBeside_116 ?_
    refine rhF.bipush (pc := 117) (v := 8) dX12_readBeside_117 (by decide) ?_
    refine rhF.iload_n (pc := 119) dX12_readBeside_119 1 rfl ?_
    refine rhF.imul (pc := 120) dX12_readBeside_120 ?_
    refine rhF.iadd (pc := 121) dX12_readBeside_121 ?_
    refine rhF.iload_n (pc := 122) dX12_readBeside_122 3 rfl ?_
    refine rhF.iadd (pc := 123) dX12_readBeside_123 ?_
    refine rhF.iload (pc := 124) dX12_readBeside_124 0 rfl ?_
    refine rhF.ck (fun h21 => ?_)
    refine rhF.iast (pc := 126) dX12_readBeside_126 h18 h21 ?_
    refine rhF.aload_n (pc := 127) dX12_readBeside_127 2 rfl ?_
    refine rhF.get (pc := 128) (rhR _) dX12_readBeside_128 fl_X12_67 h9 rfl ?_
    refine rhF.iload_n (pc := 131) dX12_readBeside_131 4 rfl ?_
    refine rhF.iload_n (pc := 132) dX12_readBeside_132 1 rfl ?_
    refine rhF.iadd (pc := 133) dX12_readBeside_133 ?_
    refine rhF.iconst (pc := 134) (v := 1) dX12_readBeside_134 (by decide) ?_
    refine rhF.ck (fun h23 => ?_)
    refine rhF.ck (fun h24 => ?_)
    refine rhF.zast (pc := 135) dX12_readBeside_135 h23 h24 ?_
    refine rhF.aload_n (pc := 136) dX12_readBeside_136 2 rfl ?_
    refine rhF.get (pc := 137) (rhR _) dX12_readBeside_137 fl_X12_67 h9 rfl ?_
    refine rhF.bipush (pc := 140) (v := 64) dX12_readBeside_140 (by decide) ?_
    refine rhF.aload_n (pc := 142) dX12_readBeside_142 2 rfl ?_
    refine rhF.get (pc := 143) (rhI _) dX12_readBeside_143 fl_X12_318 h9 rfl ?_
    refine rhF.imul (pc := 146) dX12_readBeside_146 ?_
    refine rhF.bipush (pc := 147) (v := 8) dX12_readBeside_147 (by decide) ?_
    refine rhF.iload_n (pc := 149) dX12_readBeside_149 1 rfl ?_
    refine rhF.imul (pc := 150) dX12_readBeside_150 ?_
    refine rhF.iadd (pc := 151) dX12_readBeside_151 ?_
    refine rhF.iload_n (pc := 152) dX12_readBeside_152 3 rfl ?_
    refine rhF.iadd (pc := 153) dX12_readBeside_153 ?_
    refine rhF.iconst (pc := 154) (v := 1) dX12_readBeside_154 (by decide) ?_
    refine rhF.ck (fun h26 => ?_)
    refine rhF.zast (pc := 155) dX12_readBeside_155 h23 h26 ?_
    refine rhF.aload_n (pc := 156) dX12_readBeside_156 2 rfl ?_
    refine rhF.get (pc := 157) (rhR _) dX12_readBeside_157 fl_X12_27 h9 rfl ?_
    refine rhF.aload_n (pc := 160) dX12_readBeside_160 2 rfl ?_
    refine rhF.get (pc := 161) (rhI _) dX12_readBeside_161 fl_X12_318 h9 rfl ?_
    refine rhF.dup2ri (pc := 164) dX12_readBeside_164 ?_
    refine rhF.ck (fun h28 => ?_)
    refine rhF.ck (fun h29 => ?_)
    refine rhF.iald (pc := 165) dX12_readBeside_165 h28 h29 ?_
    refine rhF.iconst (pc := 166) (v := 1) dX12_readBeside_166 (by decide) ?_
    refine rhF.iadd (pc := 167) dX12_readBeside_167 ?_
    refine rhF.iast (pc := 168) dX12_readBeside_168 h28 h29 ?_
    exact rhF.vret (pc := 169) dX12_readBeside_169 rfl rfl
set_option maxHeartbeats 4000000 in
set_option maxRecDepth 100000 in
theorem b_X12_readBeside_54 {E : rhE} {Γ : rhG} {k63 : rhM → Nat → Int32 → Int32 → Int32 → Option (rhM)} (hk63 : ∀ (M : rhM) (v0 : Nat) (v1 : Int32) (v2 : Int32) (v3 : Int32), rhF E 7 5 yX12_readBeside cX12_readBeside none Γ (rhe1U Γ) (k63 M v0 v1 v2 v3) 63 [(0, rhR v0), (1, rhI v1), (2, rhI v2), (3, rhI v3)] [] Γ M) : ∀ (M : rhM) (v0 : Nat) (v1 : Int32) (v2 : Int32) (v3 : Int32), rhF E 7 5 yX12_readBeside cX12_readBeside none Γ (rhe1U Γ) (f_X12_readBeside_54 k63 Γ M v0 v1 v2 v3) 54 [(0, rhR v0), (1, rhI v1), (2, rhI v2), (3, rhI v3)] [] Γ M := by
  intro M v0 v1 v2 v3
  rw [f_X12_readBeside_54]
  refine rhF.aload_n (pc := 54) dX12_readBeside_54 0 rfl ?_
  refine rhF.iconst (pc := 55) (v := 3) dX12_readBeside_55 (by decide) ?_
  refine rhF.aload_n (pc := 56) dX12_readBeside_56 0 rfl ?_
  refine rhF.ck (fun h33 => ?_)
  refine rhF.get (pc := 57) (rhI _) dX12_readBeside_57 fl_X12_259 h33 rfl ?_
  refine rhF.callV (pc := 60) (ci := 12) (embc := rhe1U _) [rhI _, rhI _] dX12_readBeside_60 ml_X12_290 mv_X12_fails ⟨_, rfl, rfl⟩ h33 (c_X12_fails _ _ _ _ _ _) (by decide) (by decide) rfl (Nat.le_of_ble_eq_true rfl) (fun r34 _ => ?_)
  exact hk63 _ _ _ _ _
set_option maxHeartbeats 4000000 in
set_option maxRecDepth 100000 in
theorem b_X12_readBeside {E : rhE} {Γ : rhG} : ∀ (M : rhM) (v0 : Nat), rhF E 7 5 yX12_readBeside cX12_readBeside none Γ (rhe1U Γ) (f_X12_readBeside Γ M v0) 0 [(0, rhR v0)] [] Γ M := by
  intro M v0
  rw [f_X12_readBeside]
  refine rhF.aload_n (pc := 0) dX12_readBeside_0 0 rfl ?_
  refine rhF.aload_n (pc := 1) dX12_readBeside_1 0 rfl ?_
  refine rhF.ck (fun h1 => ?_)
  refine rhF.callV (pc := 2) (ci := 12) (embc := rhe0I _ _) [] dX12_readBeside_2 ml_X12_376 mv_X12_houseHere ⟨_, rfl, rfl⟩ h1 (c_X12_houseHere _ _ _ _) (by decide) (by decide) rfl (Nat.le_of_ble_eq_true rfl) (fun r2 _ => ?_)
  refine rhF.callV (pc := 5) (ci := 12) (embc := rhe1I _) [rhI _] dX12_readBeside_5 ml_X12_379 mv_X12_known ⟨_, rfl, rfl⟩ h1 (c_X12_known _ _ _ _ _) (by decide) (by decide) rfl (Nat.le_of_ble_eq_true rfl) (fun r3 _ => ?_)
  refine rhF.istore_n (pc := 8) (L' := [(1, rhI _), (0, rhR _)]) dX12_readBeside_8 (by decide) rfl ?_
  refine rhF.aload_n (pc := 9) dX12_readBeside_9 1 rfl ?_
  refine rhF.callV (pc := 10) (ci := 12) (embc := rhe0I _ _) [] dX12_readBeside_10 ml_X12_376 mv_X12_houseHere ⟨_, rfl, rfl⟩ h1 (c_X12_houseHere _ _ _ _) (by decide) (by decide) rfl (Nat.le_of_ble_eq_true rfl) (fun r5 _ => ?_)
  refine rhF.istore_n (pc := 13) (L' := [(2, rhI _), (1, rhI _), (0, rhR _)]) dX12_readBeside_13 (by decide) rfl ?_
  refine rhF.bipush (pc := 14) (v := 64) dX12_readBeside_14 (by decide) ?_
  refine rhF.aload_n (pc := 16) dX12_readBeside_16 2 rfl ?_
  refine rhF.get (pc := 17) (rhI _) dX12_readBeside_17 fl_X12_318 h1 rfl ?_
  refine rhF.imul (pc := 20) dX12_readBeside_20 ?_
  refine rhF.bipush (pc := 21) (v := 8) dX12_readBeside_21 (by decide) ?_
  refine rhF.iload_n (pc := 23) dX12_readBeside_23 1 rfl ?_
  refine rhF.imul (pc := 24) dX12_readBeside_24 ?_
  refine rhF.iadd (pc := 25) dX12_readBeside_25 ?_
  refine rhF.istore_n (pc := 26) (L' := [(3, rhI _), (2, rhI _), (1, rhI _), (0, rhR _)]) dX12_readBeside_26 (by decide) rfl ?_
  refine rhF.aload_n (pc := 27) dX12_readBeside_27 3 rfl ?_
  refine rhF.callV (pc := 28) (ci := 12) (embc := rhe0I _ _) [] dX12_readBeside_28 ml_X12_294 mv_X12_isGood ⟨_, rfl, rfl⟩ h1 (c_X12_isGood _ _ _ _) (by decide) (by decide) rfl (Nat.le_of_ble_eq_true rfl) (fun r7 _ => ?_)
  refine rhF.if_eq (pc := 31) 63 dX12_readBeside_31 (by decide) (fun h8 => ?_) (fun h8 => ?_)
  · refine rhF.sub [3, 2, 1, 0] rfl ?_
    exact (b_X12_readBeside_63) _ _ _ _ _
  · refine rhF.iload_n (pc := 34) dX12_readBeside_34 1 rfl ?_
    refine rhF.if_lt (pc := 35) 63 dX12_readBeside_35 (by decide) (fun h31 => ?_) (fun h31 => ?_)
    · refine rhF.sub [3, 2, 1, 0] rfl ?_
      exact (b_X12_readBeside_63) _ _ _ _ _
    · refine rhF.iload_n (pc := 38) dX12_readBeside_38 2 rfl ?_
      refine rhF.iload_n (pc := 39) dX12_readBeside_39 1 rfl ?_
      refine rhF.icmp_eq (pc := 40) 54 dX12_readBeside_40 (by decide) (fun h32 => ?_) (fun h32 => ?_)
      · refine rhF.sub [3, 2, 1, 0] rfl ?_
        exact (b_X12_readBeside_54 (b_X12_readBeside_63)) _ _ _ _ _
      · refine rhF.aload_n (pc := 43) dX12_readBeside_43 3 rfl ?_
        refine rhF.get (pc := 44) (rhR _) dX12_readBeside_44 fl_X12_67 h1 rfl ?_
        refine rhF.iload_n (pc := 47) dX12_readBeside_47 0 rfl ?_
        refine rhF.iload_n (pc := 48) dX12_readBeside_48 1 rfl ?_
        refine rhF.iadd (pc := 49) dX12_readBeside_49 ?_
        refine rhF.ck (fun h35 => ?_)
        refine rhF.ck (fun h36 => ?_)
        refine rhF.zald (pc := 50) dX12_readBeside_50 h35 h36 ?_
        refine rhF.if_eq (pc := 51) 63 dX12_readBeside_51 (by decide) (fun h37 => ?_) (fun h37 => ?_)
        · refine rhF.sub [3, 2, 1, 0] rfl ?_
          exact (b_X12_readBeside_63) _ _ _ _ _
        · refine rhF.sub [3, 2, 1, 0] rfl ?_
          exact (b_X12_readBeside_54 (b_X12_readBeside_63)) _ _ _ _ _
theorem c_X12_readBeside (E : rhE) (Γ : rhG) (M : rhM) (v0 : Nat) : ∀ a, f_X12_readBeside Γ M v0 = some a → rhC E 7 yX12_readBeside cX12_readBeside 5 none [rhR v0] Γ M ((rhe1U Γ) a) := rhF.met (by decide +kernel) (Nat.le_of_ble_eq_true rfl) (b_X12_readBeside M v0)
def f_X12_readHouse_152 (k121 : rhM → Nat → Int32 → Int64 → Int32 → Int32 → Int32 → Option (rhM)) (Γ : rhG) (M : rhM) (v0 : Nat) (v1 : Int32) (v2 : Int64) (v4 : Int32) (v6 : Int32) (s0 : Int32) (s1 : Int32) : Option (rhM) :=
  let x40 := s0 + s1
  let x41 : Int32 := v6 + 1
  k121 M v0 v1 v2 v4 x40 x41
def f_X12_readHouse_121 (k161 : rhM → Nat → Int32 → Int64 → Int32 → Int32 → Option (rhM)) (Γ : rhG) : Nat → rhM → Nat → Int32 → Int64 → Int32 → Int32 → Int32 → Option (rhM)
  | 0, _, _, _, _, _, _, _ => none
  | n + 1, M, v0, v1, v2, v4, v5, v6 =>
    if v6 < v1 then
      (rhck (Γ.2.2.1 v0 = 13) <|
      rhck (Γ.2.2.1 (M.2.2 v0 21) = 15) <|
      rhck (0 ≤ (v6).toInt ∧ (v6).toInt < (Γ.2.2.2 (M.2.2 v0 21) : Nat)) <|
      if (M.1 (M.2.2 v0 21) v6.toNatClampNeg) = v4 then
        (rhck (Γ.2.2.1 (M.2.2 v0 19) = 15) <|
        rhck (0 ≤ (v6).toInt ∧ (v6).toInt < (Γ.2.2.2 (M.2.2 v0 19) : Nat)) <|
        f_X12_readHouse_152 (f_X12_readHouse_121 k161 Γ n) Γ M v0 v1 v2 v4 v6 v5 (M.1 (M.2.2 v0 19) v6.toNatClampNeg))
      else
        f_X12_readHouse_152 (f_X12_readHouse_121 k161 Γ n) Γ M v0 v1 v2 v4 v6 v5 0)
    else
      k161 M v0 v1 v2 v4 v5
def f_X12_readHouse_206 (Γ : rhG) (M : rhM) (v0 : Nat) (v1 : Int32) (v2 : Int64) : Option (rhM) :=
  rhck (Γ.2.2.1 v0 = 13) <|
  rhck (Γ.2.2.1 (M.2.2 v0 28) = 16) <|
  rhck (0 ≤ (v1).toInt ∧ (v1).toInt < (Γ.2.2.2 (M.2.2 v0 28) : Nat)) <|
  let M49 := rhsl M (M.2.2 v0 28) (v1 : Int32).toNatClampNeg v2
  rhck (Γ.2.2.1 (M.2.2 v0 12) = 15) <|
  rhck (0 ≤ (M.1 v0 35).toInt ∧ (M.1 v0 35).toInt < (Γ.2.2.2 (M.2.2 v0 12) : Nat)) <|
  let M52 := rhsi M49 (M.2.2 v0 12) (M.1 v0 35 : Int32).toNatClampNeg ((M.1 (M.2.2 v0 12) (M.1 v0 35).toNatClampNeg) + 1)
  some M52
def f_X12_readHouse_161 (Γ : rhG) (M : rhM) (v0 : Nat) (v1 : Int32) (v2 : Int64) (v4 : Int32) (v5 : Int32) : Option (rhM) :=
  rhck (Γ.2.2.1 v0 = 13) <|
  (f_X12_stands Γ M v0 (59 : Int32)).bind fun r43 =>
  if r43 = 0 then
    ((f_X12_misplaced Γ M v0).bind fun r45 =>
    f_X12_readHouse_206 Γ r45 v0 v1 v2)
  else
    rhck (Γ.2.2.1 (M.2.2 v0 18) = 15) <|
    rhck (0 ≤ ((5 * (M.1 v0 35)) + v4).toInt ∧ ((5 * (M.1 v0 35)) + v4).toInt < (Γ.2.2.2 (M.2.2 v0 18) : Nat)) <|
    if (M.1 (M.2.2 v0 18) ((5 * (M.1 v0 35)) + v4).toNatClampNeg) < v5 then
      ((f_X12_fails Γ M v0 (6 : Int32) (M.1 v0 6)).bind fun r56 =>
      f_X12_readHouse_206 Γ r56 v0 v1 v2)
    else
      f_X12_readHouse_206 Γ M v0 v1 v2
def f_X12_readHouse_31 (Γ : rhG) (M : rhM) (v0 : Nat) (v1 : Int32) (s0 : Nat) (s1 : Int32) : Option (rhM) :=
  rhck (Γ.2.2.1 s0 = 13) <|
  (f_X12_fresh Γ M s0 s1).bind fun r8 =>
  let x9 := r8.1
  rhck (Γ.2.2.1 v0 = 13) <|
  (f_X12_after Γ r8.2 v0 ((119182899770472 : Int64)) (1 : Int32) (9 : Int32)).bind fun r11 =>
  rhck (Γ.2.2.1 (r8.2.2.2 v0 19) = 15) <|
  rhck (0 ≤ (v1).toInt ∧ (v1).toInt < (Γ.2.2.2 (r8.2.2.2 v0 19) : Nat)) <|
  let M14 := rhsi r11.2 (r8.2.2.2 v0 19) (v1 : Int32).toNatClampNeg r11.1
  (f_X12_after Γ M14 v0 ((131277443786868 : Int64)) (1 : Int32) (99 : Int32)).bind fun r15 =>
  rhck (Γ.2.2.1 (r11.2.2.2 v0 20) = 15) <|
  rhck (0 ≤ (v1).toInt ∧ (v1).toInt < (Γ.2.2.2 (r11.2.2.2 v0 20) : Nat)) <|
  let M18 := rhsi r15.2 (r11.2.2.2 v0 20) (v1 : Int32).toNatClampNeg r15.1
  (f_X12_isWord Γ M18 v0 ((28526 : Int64))).bind fun r19 =>
  (f_X12_must Γ M18 v0 r19).bind fun r20 =>
  (f_X12_railHere Γ r20 v0).bind fun r21 =>
  (f_X12_known Γ r20 v0 r21).bind fun r22 =>
  let x23 := r22.1
  rhck (Γ.2.2.1 (r22.2.2.2 v0 21) = 15) <|
  rhck (0 ≤ (v1).toInt ∧ (v1).toInt < (Γ.2.2.2 (r22.2.2.2 v0 21) : Nat)) <|
  let M26 := rhsi r22.2 (r22.2.2.2 v0 21) (v1 : Int32).toNatClampNeg x23
  (f_X12_isGood Γ M26 v0).bind fun r27 =>
  if r27 = 0 then
    (some M26)
  else
    rhck (Γ.2.2.1 (r22.2.2.2 v0 19) = 15) <|
    rhck (0 ≤ (v1).toInt ∧ (v1).toInt < (Γ.2.2.2 (r22.2.2.2 v0 19) : Nat)) <|
    let x31 := M26.1 (r22.2.2.2 v0 19) v1.toNatClampNeg
    let x32 := 8 * (M26.1 v0 35)
    f_X12_readHouse_121 (f_X12_readHouse_161 Γ) Γ rhFU M26 v0 v1 x9 x23 x31 x32
def f_X12_readHouse (Γ : rhG) (M : rhM) (v0 : Nat) : Option (rhM) :=
  rhck (Γ.2.2.1 v0 = 13) <|
  rhck (Γ.2.2.1 (M.2.2 v0 12) = 15) <|
  rhck (0 ≤ (M.1 v0 35).toInt ∧ (M.1 v0 35).toInt < (Γ.2.2.2 (M.2.2 v0 12) : Nat)) <|
  let x4 := (8 * (M.1 v0 35)) + (M.1 (M.2.2 v0 12) (M.1 v0 35).toNatClampNeg)
  (f_X12_houseHere Γ M v0).bind fun r5 =>
  if r5 < 0 then
    (f_X12_readHouse_31 Γ M v0 x4 v0 0)
  else
    f_X12_readHouse_31 Γ M v0 x4 v0 1
set_option maxHeartbeats 4000000 in
set_option maxRecDepth 100000 in
theorem b_X12_readHouse_152 {E : rhE} {Γ : rhG} {k121 : rhM → Nat → Int32 → Int64 → Int32 → Int32 → Int32 → Option (rhM)} (hk121 : ∀ (M : rhM) (v0 : Nat) (v1 : Int32) (v2 : Int64) (v4 : Int32) (v5 : Int32) (v6 : Int32), rhF E 8 7 yX12_readHouse cX12_readHouse none Γ (rhe1U Γ) (k121 M v0 v1 v2 v4 v5 v6) 121 [(0, rhR v0), (1, rhI v1), (2, rhJ v2), (4, rhI v4), (5, rhI v5), (6, rhI v6)] [] Γ M) : ∀ (M : rhM) (v0 : Nat) (v1 : Int32) (v2 : Int64) (v4 : Int32) (v6 : Int32) (s0 : Int32) (s1 : Int32), rhF E 8 7 yX12_readHouse cX12_readHouse none Γ (rhe1U Γ) (f_X12_readHouse_152 k121 Γ M v0 v1 v2 v4 v6 s0 s1) 152 [(0, rhR v0), (1, rhI v1), (2, rhJ v2), (4, rhI v4), (6, rhI v6)] [rhI s1, rhI s0] Γ M := by
  intro M v0 v1 v2 v4 v6 s0 s1
  rw [f_X12_readHouse_152]
  refine rhF.iadd (pc := 152) dX12_readHouse_152 ?_
  refine rhF.istore (pc := 153) (L' := [(5, rhI _), (0, rhR _), (1, rhI _), (2, rhJ _), (4, rhI _), (6, rhI _)]) dX12_readHouse_153 (by decide) rfl ?_
  refine rhF.iinc (pc := 155) (L' := [(6, rhI _), (5, rhI _), (0, rhR _), (1, rhI _), (2, rhJ _), (4, rhI _)]) dX12_readHouse_155 5 rfl rfl (by decide) rfl ?_
  refine rhF.goto (pc := 158) 121 dX12_readHouse_158 (by decide) ?_
  refine rhF.sub [2, 3, 4, 5, 1, 0] rfl ?_
  exact hk121 _ _ _ _ _ _ _
set_option maxHeartbeats 4000000 in
set_option maxRecDepth 100000 in
theorem b_X12_readHouse_121 {E : rhE} {Γ : rhG} {k161 : rhM → Nat → Int32 → Int64 → Int32 → Int32 → Option (rhM)} (hk161 : ∀ (M : rhM) (v0 : Nat) (v1 : Int32) (v2 : Int64) (v4 : Int32) (v5 : Int32), rhF E 8 7 yX12_readHouse cX12_readHouse none Γ (rhe1U Γ) (k161 M v0 v1 v2 v4 v5) 161 [(0, rhR v0), (1, rhI v1), (2, rhJ v2), (4, rhI v4), (5, rhI v5)] [] Γ M) : ∀ (n : Nat) (M : rhM) (v0 : Nat) (v1 : Int32) (v2 : Int64) (v4 : Int32) (v5 : Int32) (v6 : Int32), rhF E 8 7 yX12_readHouse cX12_readHouse none Γ (rhe1U Γ) (f_X12_readHouse_121 k161 Γ n M v0 v1 v2 v4 v5 v6) 121 [(0, rhR v0), (1, rhI v1), (2, rhJ v2), (4, rhI v4), (5, rhI v5), (6, rhI v6)] [] Γ M := by
  intro n
  induction n with
  | zero => intro M v0 v1 v2 v4 v5 v6; rw [f_X12_readHouse_121]; exact rhF.nope
  | succ n ih =>
    intro M v0 v1 v2 v4 v5 v6
    rw [f_X12_readHouse_121]
    refine rhF.iload (pc := 121) dX12_readHouse_121 5 rfl ?_
    refine rhF.iload_n (pc := 123) dX12_readHouse_123 1 rfl ?_
    refine rhF.icmp_ge (pc := 124) 161 dX12_readHouse_124 (by decide) (fun h33 => ?_) (fun h33 => ?_)
    · refine rhF.iload (pc := 127) dX12_readHouse_127 4 rfl ?_
      refine rhF.aload_n (pc := 129) dX12_readHouse_129 0 rfl ?_
      refine rhF.ck (fun h34 => ?_)
      refine rhF.get (pc := 130) (rhR _) dX12_readHouse_130 fl_X12_51 h34 rfl ?_
      refine rhF.iload (pc := 133) dX12_readHouse_133 5 rfl ?_
      refine rhF.ck (fun h35 => ?_)
      refine rhF.ck (fun h36 => ?_)
      refine rhF.iald (pc := 135) dX12_readHouse_135 h35 h36 ?_
      refine rhF.iload (pc := 136) dX12_readHouse_136 3 rfl ?_
      refine rhF.icmp_ne (pc := 138) 151 dX12_readHouse_138 (by decide) (fun h37 => ?_) (fun h37 => ?_)
      · refine rhF.aload_n (pc := 141) dX12_readHouse_141 0 rfl ?_
        refine rhF.get (pc := 142) (rhR _) dX12_readHouse_142 fl_X12_45 h34 rfl ?_
        refine rhF.iload (pc := 145) dX12_readHouse_145 5 rfl ?_
        refine rhF.ck (fun h38 => ?_)
        refine rhF.ck (fun h39 => ?_)
        refine rhF.iald (pc := 147) dX12_readHouse_147 h38 h39 ?_
        refine rhF.goto (pc := 148) 152 dX12_readHouse_148 (by decide) ?_
        refine rhF.sub [0, 1, 2, 3, 5] rfl ?_
        exact (b_X12_readHouse_152 ih) _ _ _ _ _ _ _ _
      · refine rhF.iconst (pc := 151) (v := 0) dX12_readHouse_151 (by decide) ?_
        refine rhF.sub [0, 1, 2, 3, 5] rfl ?_
        exact (b_X12_readHouse_152 ih) _ _ _ _ _ _ _ _
    · refine rhF.sub [0, 1, 2, 3, 4] rfl ?_
      exact hk161 _ _ _ _ _ _
set_option maxHeartbeats 4000000 in
set_option maxRecDepth 100000 in
theorem b_X12_readHouse_206 {E : rhE} {Γ : rhG} : ∀ (M : rhM) (v0 : Nat) (v1 : Int32) (v2 : Int64), rhF E 8 7 yX12_readHouse cX12_readHouse none Γ (rhe1U Γ) (f_X12_readHouse_206 Γ M v0 v1 v2) 206 [(0, rhR v0), (1, rhI v1), (2, rhJ v2)] [] Γ M := by
  intro M v0 v1 v2
  rw [f_X12_readHouse_206]
  refine rhF.aload_n (pc := 206) dX12_readHouse_206 0 rfl ?_
  refine rhF.ck (fun h46 => ?_)
  refine rhF.get (pc := 207) (rhR _) dX12_readHouse_207 fl_X12_74 h46 rfl ?_
  refine rhF.iload_n (pc := 210) dX12_readHouse_210 1 rfl ?_
  refine rhF.lload_n (pc := 211) dX12_readHouse_211 2 rfl ?_
  refine rhF.ck (fun h47 => ?_)
  refine rhF.ck (fun h48 => ?_)
  refine rhF.last (pc := 212) dX12_readHouse_212 h47 h48 ?_
  refine rhF.aload_n (pc := 213) dX12_readHouse_213 0 rfl ?_
  refine rhF.get (pc := 214) (rhR _) dX12_readHouse_214 fl_X12_24 h46 rfl ?_
  refine rhF.aload_n (pc := 217) dX12_readHouse_217 0 rfl ?_
  refine rhF.get (pc := 218) (rhI _) dX12_readHouse_218 fl_X12_318 h46 rfl ?_
  refine rhF.dup2ri (pc := 221) dX12_readHouse_221 ?_
  refine rhF.ck (fun h50 => ?_)
  refine rhF.ck (fun h51 => ?_)
  refine rhF.iald (pc := 222) dX12_readHouse_222 h50 h51 ?_
  refine rhF.iconst (pc := 223) (v := 1) dX12_readHouse_223 (by decide) ?_
  refine rhF.iadd (pc := 224) dX12_readHouse_224 ?_
  refine rhF.iast (pc := 225) dX12_readHouse_225 h50 h51 ?_
  exact rhF.vret (pc := 226) dX12_readHouse_226 rfl rfl
set_option maxHeartbeats 4000000 in
set_option maxRecDepth 100000 in
theorem b_X12_readHouse_161 {E : rhE} {Γ : rhG} : ∀ (M : rhM) (v0 : Nat) (v1 : Int32) (v2 : Int64) (v4 : Int32) (v5 : Int32), rhF E 8 7 yX12_readHouse cX12_readHouse none Γ (rhe1U Γ) (f_X12_readHouse_161 Γ M v0 v1 v2 v4 v5) 161 [(0, rhR v0), (1, rhI v1), (2, rhJ v2), (4, rhI v4), (5, rhI v5)] [] Γ M := by
  intro M v0 v1 v2 v4 v5
  rw [f_X12_readHouse_161]
  refine rhF.aload_n (pc := 161) dX12_readHouse_161 0 rfl ?_
  refine rhF.bipush (pc := 162) (v := 59) dX12_readHouse_162 (by decide) ?_
  refine rhF.ck (fun h42 => ?_)
  refine rhF.callV (pc := 164) (ci := 12) (embc := rhe0I _ _) [rhI _] dX12_readHouse_164 ml_X12_315 mv_X12_stands ⟨_, rfl, rfl⟩ h42 (c_X12_stands _ _ _ _ _) (by decide) (by decide) rfl (Nat.le_of_ble_eq_true rfl) (fun r43 _ => ?_)
  refine rhF.if_ne (pc := 167) 177 dX12_readHouse_167 (by decide) (fun h44 => ?_) (fun h44 => ?_)
  · refine rhF.aload_n (pc := 170) dX12_readHouse_170 0 rfl ?_
    refine rhF.callV (pc := 171) (ci := 12) (embc := rhe1U _) [] dX12_readHouse_171 ml_X12_301 mv_X12_misplaced ⟨_, rfl, rfl⟩ h42 (c_X12_misplaced _ _ _ _) (by decide) (by decide) rfl (Nat.le_of_ble_eq_true rfl) (fun r45 _ => ?_)
    refine rhF.goto (pc := 174) 206 dX12_readHouse_174 (by decide) ?_
    refine rhF.sub [0, 1, 2] rfl ?_
    exact (b_X12_readHouse_206) _ _ _ _
  · refine rhF.iload (pc := 177) dX12_readHouse_177 4 rfl ?_
    refine rhF.aload_n (pc := 179) dX12_readHouse_179 0 rfl ?_
    refine rhF.get (pc := 180) (rhR _) dX12_readHouse_180 fl_X12_42 h42 rfl ?_
    refine rhF.iconst (pc := 183) (v := 5) dX12_readHouse_183 (by decide) ?_
    refine rhF.aload_n (pc := 184) dX12_readHouse_184 0 rfl ?_
    refine rhF.get (pc := 185) (rhI _) dX12_readHouse_185 fl_X12_318 h42 rfl ?_
    refine rhF.imul (pc := 188) dX12_readHouse_188 ?_
    refine rhF.iload (pc := 189) dX12_readHouse_189 3 rfl ?_
    refine rhF.iadd (pc := 191) dX12_readHouse_191 ?_
    refine rhF.ck (fun h53 => ?_)
    refine rhF.ck (fun h54 => ?_)
    refine rhF.iald (pc := 192) dX12_readHouse_192 h53 h54 ?_
    refine rhF.icmp_le (pc := 193) 206 dX12_readHouse_193 (by decide) (fun h55 => ?_) (fun h55 => ?_)
    · refine rhF.aload_n (pc := 196) dX12_readHouse_196 0 rfl ?_
      refine rhF.bipush (pc := 197) (v := 6) dX12_readHouse_197 (by decide) ?_
      refine rhF.aload_n (pc := 199) dX12_readHouse_199 0 rfl ?_
      refine rhF.get (pc := 200) (rhI _) dX12_readHouse_200 fl_X12_259 h42 rfl ?_
      refine rhF.callV (pc := 203) (ci := 12) (embc := rhe1U _) [rhI _, rhI _] dX12_readHouse_203 ml_X12_290 mv_X12_fails ⟨_, rfl, rfl⟩ h42 (c_X12_fails _ _ _ _ _ _) (by decide) (by decide) rfl (Nat.le_of_ble_eq_true rfl) (fun r56 _ => ?_)
      refine rhF.sub [0, 1, 2] rfl ?_
      exact (b_X12_readHouse_206) _ _ _ _
    · refine rhF.sub [0, 1, 2] rfl ?_
      exact (b_X12_readHouse_206) _ _ _ _
set_option maxHeartbeats 4000000 in
set_option maxRecDepth 100000 in
theorem b_X12_readHouse_31 {E : rhE} {Γ : rhG} : ∀ (M : rhM) (v0 : Nat) (v1 : Int32) (s0 : Nat) (s1 : Int32), rhF E 8 7 yX12_readHouse cX12_readHouse none Γ (rhe1U Γ) (f_X12_readHouse_31 Γ M v0 v1 s0 s1) 31 [(0, rhR v0), (1, rhI v1)] [rhI s1, rhR s0] Γ M := by
  intro M v0 v1 s0 s1
  rw [f_X12_readHouse_31]
  refine rhF.ck (fun h7 => ?_)
  refine rhF.callV (pc := 31) (ci := 12) (embc := rhe1J _) [rhI _] dX12_readHouse_31 ml_X12_368 mv_X12_fresh ⟨_, rfl, rfl⟩ h7 (c_X12_fresh _ _ _ _ _) (by decide) (by decide) rfl (Nat.le_of_ble_eq_true rfl) (fun r8 _ => ?_)
  refine rhF.lstore_n (pc := 34) (L' := [(2, rhJ _), (0, rhR _), (1, rhI _)]) dX12_readHouse_34 (by decide) rfl ?_
  refine rhF.aload_n (pc := 35) dX12_readHouse_35 1 rfl ?_
  refine rhF.ck (fun h10 => ?_)
  refine rhF.get (pc := 36) (rhR _) dX12_readHouse_36 fl_X12_45 h10 rfl ?_
  refine rhF.iload_n (pc := 39) dX12_readHouse_39 2 rfl ?_
  refine rhF.aload_n (pc := 40) dX12_readHouse_40 1 rfl ?_
  refine rhF.ldc2 (pc := 41) dX12_readHouse_41 k_X12_222 ?_
  refine rhF.iconst (pc := 44) (v := 1) dX12_readHouse_44 (by decide) ?_
  refine rhF.bipush (pc := 45) (v := 9) dX12_readHouse_45 (by decide) ?_
  refine rhF.callV (pc := 47) (ci := 12) (embc := rhe1I _) [rhJ _, rhI _, rhI _] dX12_readHouse_47 ml_X12_372 mv_X12_after ⟨_, rfl, rfl⟩ h10 (c_X12_after _ _ _ _ _ _ _) (by decide) (by decide) rfl (Nat.le_of_ble_eq_true rfl) (fun r11 _ => ?_)
  refine rhF.ck (fun h12 => ?_)
  refine rhF.ck (fun h13 => ?_)
  refine rhF.iast (pc := 50) dX12_readHouse_50 h12 h13 ?_
  refine rhF.aload_n (pc := 51) dX12_readHouse_51 1 rfl ?_
  refine rhF.get (pc := 52) (rhR _) dX12_readHouse_52 fl_X12_48 h10 rfl ?_
  refine rhF.iload_n (pc := 55) dX12_readHouse_55 2 rfl ?_
  refine rhF.aload_n (pc := 56) dX12_readHouse_56 1 rfl ?_
  refine rhF.ldc2 (pc := 57) dX12_readHouse_57 k_X12_226 ?_
  refine rhF.iconst (pc := 60) (v := 1) dX12_readHouse_60 (by decide) ?_
  refine rhF.bipush (pc := 61) (v := 99) dX12_readHouse_61 (by decide) ?_
  refine rhF.callV (pc := 63) (ci := 12) (embc := rhe1I _) [rhJ _, rhI _, rhI _] dX12_readHouse_63 ml_X12_372 mv_X12_after ⟨_, rfl, rfl⟩ h10 (c_X12_after _ _ _ _ _ _ _) (by decide) (by decide) rfl (Nat.le_of_ble_eq_true rfl) (fun r15 _ => ?_)
  refine rhF.ck (fun h16 => ?_)
  refine rhF.ck (fun h17 => ?_)
  refine rhF.iast (pc := 66) dX12_readHouse_66 h16 h17 ?_
  refine rhF.aload_n (pc := 67) dX12_readHouse_67 1 rfl ?_
  refine rhF.aload_n (pc := 68) dX12_readHouse_68 1 rfl ?_
  refine rhF.ldc2 (pc := 69) dX12_readHouse_69 k_X12_228 ?_
  refine rhF.callV (pc := 72) (ci := 12) (embc := rhe0I _ _) [rhJ _] dX12_readHouse_72 ml_X12_304 mv_X12_isWord ⟨_, rfl, rfl⟩ h10 (c_X12_isWord _ _ _ _ _) (by decide) (by decide) rfl (Nat.le_of_ble_eq_true rfl) (fun r19 _ => ?_)
  refine rhF.callV (pc := 75) (ci := 12) (embc := rhe1U _) [rhI _] dX12_readHouse_75 ml_X12_307 mv_X12_must ⟨_, rfl, rfl⟩ h10 (c_X12_must _ _ _ _ _) (by decide) (by decide) rfl (Nat.le_of_ble_eq_true rfl) (fun r20 _ => ?_)
  refine rhF.aload_n (pc := 78) dX12_readHouse_78 1 rfl ?_
  refine rhF.aload_n (pc := 79) dX12_readHouse_79 1 rfl ?_
  refine rhF.callV (pc := 80) (ci := 12) (embc := rhe0I _ _) [] dX12_readHouse_80 ml_X12_364 mv_X12_railHere ⟨_, rfl, rfl⟩ h10 (c_X12_railHere _ _ _ _) (by decide) (by decide) rfl (Nat.le_of_ble_eq_true rfl) (fun r21 _ => ?_)
  refine rhF.callV (pc := 83) (ci := 12) (embc := rhe1I _) [rhI _] dX12_readHouse_83 ml_X12_379 mv_X12_known ⟨_, rfl, rfl⟩ h10 (c_X12_known _ _ _ _ _) (by decide) (by decide) rfl (Nat.le_of_ble_eq_true rfl) (fun r22 _ => ?_)
  refine rhF.istore (pc := 86) (L' := [(4, rhI _), (2, rhJ _), (0, rhR _), (1, rhI _)]) dX12_readHouse_86 (by decide) rfl ?_
  refine rhF.aload_n (pc := 88) dX12_readHouse_88 2 rfl ?_
  refine rhF.get (pc := 89) (rhR _) dX12_readHouse_89 fl_X12_51 h10 rfl ?_
  refine rhF.iload_n (pc := 92) dX12_readHouse_92 3 rfl ?_
  refine rhF.iload (pc := 93) dX12_readHouse_93 0 rfl ?_
  refine rhF.ck (fun h24 => ?_)
  refine rhF.ck (fun h25 => ?_)
  refine rhF.iast (pc := 95) dX12_readHouse_95 h24 h25 ?_
  refine rhF.aload_n (pc := 96) dX12_readHouse_96 2 rfl ?_
  refine rhF.callV (pc := 97) (ci := 12) (embc := rhe0I _ _) [] dX12_readHouse_97 ml_X12_294 mv_X12_isGood ⟨_, rfl, rfl⟩ h10 (c_X12_isGood _ _ _ _) (by decide) (by decide) rfl (Nat.le_of_ble_eq_true rfl) (fun r27 _ => ?_)
  refine rhF.if_ne (pc := 100) 104 dX12_readHouse_100 (by decide) (fun h28 => ?_) (fun h28 => ?_)
  · exact rhF.vret (pc := 103) dX12_readHouse_103 rfl rfl
  · refine rhF.aload_n (pc := 104) dX12_readHouse_104 2 rfl ?_
    refine rhF.get (pc := 105) (rhR _) dX12_readHouse_105 fl_X12_45 h10 rfl ?_
    refine rhF.iload_n (pc := 108) dX12_readHouse_108 3 rfl ?_
    refine rhF.ck (fun h29 => ?_)
    refine rhF.ck (fun h30 => ?_)
    refine rhF.iald (pc := 109) dX12_readHouse_109 h29 h30 ?_
    refine rhF.istore (pc := 110) (L' := [(5, rhI _), (4, rhI _), (2, rhJ _), (0, rhR _), (1, rhI _)]) dX12_readHouse_110 (by decide) rfl ?_
    refine rhF.bipush (pc := 112) (v := 8) dX12_readHouse_112 (by decide) ?_
    refine rhF.aload_n (pc := 114) dX12_readHouse_114 3 rfl ?_
    refine rhF.get (pc := 115) (rhI _) dX12_readHouse_115 fl_X12_318 h10 rfl ?_
    refine rhF.imul (pc := 118) dX12_readHouse_118 ?_
    refine rhF.istore (pc := 119) (L' := [(6, rhI _), (5, rhI _), (4, rhI _), (2, rhJ _), (0, rhR _), (1, rhI _)]) dX12_readHouse_119 (by decide) rfl ?_
    refine rhF.sub [4, 5, 3, 2, 1, 0] rfl ?_
    exact (b_X12_readHouse_121 (b_X12_readHouse_161) rhFU) _ _ _ _ _ _ _
set_option maxHeartbeats 4000000 in
set_option maxRecDepth 100000 in
theorem b_X12_readHouse {E : rhE} {Γ : rhG} : ∀ (M : rhM) (v0 : Nat), rhF E 8 7 yX12_readHouse cX12_readHouse none Γ (rhe1U Γ) (f_X12_readHouse Γ M v0) 0 [(0, rhR v0)] [] Γ M := by
  intro M v0
  rw [f_X12_readHouse]
  refine rhF.bipush (pc := 0) (v := 8) dX12_readHouse_0 (by decide) ?_
  refine rhF.aload_n (pc := 2) dX12_readHouse_2 0 rfl ?_
  refine rhF.ck (fun h1 => ?_)
  refine rhF.get (pc := 3) (rhI _) dX12_readHouse_3 fl_X12_318 h1 rfl ?_
  refine rhF.imul (pc := 6) dX12_readHouse_6 ?_
  refine rhF.aload_n (pc := 7) dX12_readHouse_7 0 rfl ?_
  refine rhF.get (pc := 8) (rhR _) dX12_readHouse_8 fl_X12_24 h1 rfl ?_
  refine rhF.aload_n (pc := 11) dX12_readHouse_11 0 rfl ?_
  refine rhF.get (pc := 12) (rhI _) dX12_readHouse_12 fl_X12_318 h1 rfl ?_
  refine rhF.ck (fun h2 => ?_)
  refine rhF.ck (fun h3 => ?_)
  refine rhF.iald (pc := 15) dX12_readHouse_15 h2 h3 ?_
  refine rhF.iadd (pc := 16) dX12_readHouse_16 ?_
  refine rhF.istore_n (pc := 17) (L' := [(1, rhI _), (0, rhR _)]) dX12_readHouse_17 (by decide) rfl ?_
  refine rhF.aload_n (pc := 18) dX12_readHouse_18 1 rfl ?_
  refine rhF.aload_n (pc := 19) dX12_readHouse_19 1 rfl ?_
  refine rhF.callV (pc := 20) (ci := 12) (embc := rhe0I _ _) [] dX12_readHouse_20 ml_X12_376 mv_X12_houseHere ⟨_, rfl, rfl⟩ h1 (c_X12_houseHere _ _ _ _) (by decide) (by decide) rfl (Nat.le_of_ble_eq_true rfl) (fun r5 _ => ?_)
  refine rhF.if_lt (pc := 23) 30 dX12_readHouse_23 (by decide) (fun h6 => ?_) (fun h6 => ?_)
  · refine rhF.iconst (pc := 30) (v := 0) dX12_readHouse_30 (by decide) ?_
    refine rhF.sub [1, 0] rfl ?_
    exact (b_X12_readHouse_31) _ _ _ _ _
  · refine rhF.iconst (pc := 26) (v := 1) dX12_readHouse_26 (by decide) ?_
    refine rhF.goto (pc := 27) 31 dX12_readHouse_27 (by decide) ?_
    refine rhF.sub [1, 0] rfl ?_
    exact (b_X12_readHouse_31) _ _ _ _ _
theorem c_X12_readHouse (E : rhE) (Γ : rhG) (M : rhM) (v0 : Nat) : ∀ a, f_X12_readHouse Γ M v0 = some a → rhC E 8 yX12_readHouse cX12_readHouse 7 none [rhR v0] Γ M ((rhe1U Γ) a) := rhF.met (by decide +kernel) (Nat.le_of_ble_eq_true rfl) (b_X12_readHouse M v0)
def f_X12_readRail_35 (Γ : rhG) (M : rhM) (v0 : Nat) (v1 : Int32) (s0 : Nat) (s1 : Int32) (s2 : Nat) (s3 : Int32) : Option (rhM) :=
  rhck (Γ.2.2.1 s2 = 13) <|
  (f_X12_fresh Γ M s2 s3).bind fun r8 =>
  rhck (Γ.2.2.1 s0 = 16) <|
  rhck (0 ≤ (s1).toInt ∧ (s1).toInt < (Γ.2.2.2 s0 : Nat)) <|
  let M11 := rhsl r8.2 s0 (s1 : Int32).toNatClampNeg r8.1
  rhck (Γ.2.2.1 v0 = 13) <|
  (f_X12_after Γ M11 v0 ((119182899770472 : Int64)) (1 : Int32) (99 : Int32)).bind fun r13 =>
  rhck (Γ.2.2.1 (r8.2.2.2 v0 18) = 15) <|
  rhck (0 ≤ (v1).toInt ∧ (v1).toInt < (Γ.2.2.2 (r8.2.2.2 v0 18) : Nat)) <|
  let M16 := rhsi r13.2 (r8.2.2.2 v0 18) (v1 : Int32).toNatClampNeg r13.1
  rhck (Γ.2.2.1 (r13.2.2.2 v0 11) = 15) <|
  rhck (0 ≤ (M16.1 v0 35).toInt ∧ (M16.1 v0 35).toInt < (Γ.2.2.2 (r13.2.2.2 v0 11) : Nat)) <|
  let M19 := rhsi M16 (r13.2.2.2 v0 11) (M16.1 v0 35 : Int32).toNatClampNeg ((M16.1 (r13.2.2.2 v0 11) (M16.1 v0 35).toNatClampNeg) + 1)
  some M19
def f_X12_readRail (Γ : rhG) (M : rhM) (v0 : Nat) : Option (rhM) :=
  rhck (Γ.2.2.1 v0 = 13) <|
  rhck (Γ.2.2.1 (M.2.2 v0 11) = 15) <|
  rhck (0 ≤ (M.1 v0 35).toInt ∧ (M.1 v0 35).toInt < (Γ.2.2.2 (M.2.2 v0 11) : Nat)) <|
  let x4 := (5 * (M.1 v0 35)) + (M.1 (M.2.2 v0 11) (M.1 v0 35).toNatClampNeg)
  (f_X12_railHere Γ M v0).bind fun r5 =>
  if r5 < 0 then
    (f_X12_readRail_35 Γ M v0 x4 (M.2.2 v0 27) x4 v0 0)
  else
    f_X12_readRail_35 Γ M v0 x4 (M.2.2 v0 27) x4 v0 1
set_option maxHeartbeats 4000000 in
set_option maxRecDepth 100000 in
theorem b_X12_readRail_35 {E : rhE} {Γ : rhG} : ∀ (M : rhM) (v0 : Nat) (v1 : Int32) (s0 : Nat) (s1 : Int32) (s2 : Nat) (s3 : Int32), rhF E 8 2 yX12_readRail cX12_readRail none Γ (rhe1U Γ) (f_X12_readRail_35 Γ M v0 v1 s0 s1 s2 s3) 35 [(0, rhR v0), (1, rhI v1)] [rhI s3, rhR s2, rhI s1, rhR s0] Γ M := by
  intro M v0 v1 s0 s1 s2 s3
  rw [f_X12_readRail_35]
  refine rhF.ck (fun h7 => ?_)
  refine rhF.callV (pc := 35) (ci := 12) (embc := rhe1J _) [rhI _] dX12_readRail_35 ml_X12_368 mv_X12_fresh ⟨_, rfl, rfl⟩ h7 (c_X12_fresh _ _ _ _ _) (by decide) (by decide) rfl (Nat.le_of_ble_eq_true rfl) (fun r8 _ => ?_)
  refine rhF.ck (fun h9 => ?_)
  refine rhF.ck (fun h10 => ?_)
  refine rhF.last (pc := 38) dX12_readRail_38 h9 h10 ?_
  refine rhF.aload_n (pc := 39) dX12_readRail_39 0 rfl ?_
  refine rhF.ck (fun h12 => ?_)
  refine rhF.get (pc := 40) (rhR _) dX12_readRail_40 fl_X12_42 h12 rfl ?_
  refine rhF.iload_n (pc := 43) dX12_readRail_43 1 rfl ?_
  refine rhF.aload_n (pc := 44) dX12_readRail_44 0 rfl ?_
  refine rhF.ldc2 (pc := 45) dX12_readRail_45 k_X12_222 ?_
  refine rhF.iconst (pc := 48) (v := 1) dX12_readRail_48 (by decide) ?_
  refine rhF.bipush (pc := 49) (v := 99) dX12_readRail_49 (by decide) ?_
  refine rhF.callV (pc := 51) (ci := 12) (embc := rhe1I _) [rhJ _, rhI _, rhI _] dX12_readRail_51 ml_X12_372 mv_X12_after ⟨_, rfl, rfl⟩ h12 (c_X12_after _ _ _ _ _ _ _) (by decide) (by decide) rfl (Nat.le_of_ble_eq_true rfl) (fun r13 _ => ?_)
  refine rhF.ck (fun h14 => ?_)
  refine rhF.ck (fun h15 => ?_)
  refine rhF.iast (pc := 54) dX12_readRail_54 h14 h15 ?_
  refine rhF.aload_n (pc := 55) dX12_readRail_55 0 rfl ?_
  refine rhF.get (pc := 56) (rhR _) dX12_readRail_56 fl_X12_20 h12 rfl ?_
  refine rhF.aload_n (pc := 59) dX12_readRail_59 0 rfl ?_
  refine rhF.get (pc := 60) (rhI _) dX12_readRail_60 fl_X12_318 h12 rfl ?_
  refine rhF.dup2ri (pc := 63) dX12_readRail_63 ?_
  refine rhF.ck (fun h17 => ?_)
  refine rhF.ck (fun h18 => ?_)
  refine rhF.iald (pc := 64) dX12_readRail_64 h17 h18 ?_
  refine rhF.iconst (pc := 65) (v := 1) dX12_readRail_65 (by decide) ?_
  refine rhF.iadd (pc := 66) dX12_readRail_66 ?_
  refine rhF.iast (pc := 67) dX12_readRail_67 h17 h18 ?_
  exact rhF.vret (pc := 68) dX12_readRail_68 rfl rfl
set_option maxHeartbeats 4000000 in
set_option maxRecDepth 100000 in
theorem b_X12_readRail {E : rhE} {Γ : rhG} : ∀ (M : rhM) (v0 : Nat), rhF E 8 2 yX12_readRail cX12_readRail none Γ (rhe1U Γ) (f_X12_readRail Γ M v0) 0 [(0, rhR v0)] [] Γ M := by
  intro M v0
  rw [f_X12_readRail]
  refine rhF.iconst (pc := 0) (v := 5) dX12_readRail_0 (by decide) ?_
  refine rhF.aload_n (pc := 1) dX12_readRail_1 0 rfl ?_
  refine rhF.ck (fun h1 => ?_)
  refine rhF.get (pc := 2) (rhI _) dX12_readRail_2 fl_X12_318 h1 rfl ?_
  refine rhF.imul (pc := 5) dX12_readRail_5 ?_
  refine rhF.aload_n (pc := 6) dX12_readRail_6 0 rfl ?_
  refine rhF.get (pc := 7) (rhR _) dX12_readRail_7 fl_X12_20 h1 rfl ?_
  refine rhF.aload_n (pc := 10) dX12_readRail_10 0 rfl ?_
  refine rhF.get (pc := 11) (rhI _) dX12_readRail_11 fl_X12_318 h1 rfl ?_
  refine rhF.ck (fun h2 => ?_)
  refine rhF.ck (fun h3 => ?_)
  refine rhF.iald (pc := 14) dX12_readRail_14 h2 h3 ?_
  refine rhF.iadd (pc := 15) dX12_readRail_15 ?_
  refine rhF.istore_n (pc := 16) (L' := [(1, rhI _), (0, rhR _)]) dX12_readRail_16 (by decide) rfl ?_
  refine rhF.aload_n (pc := 17) dX12_readRail_17 1 rfl ?_
  refine rhF.get (pc := 18) (rhR _) dX12_readRail_18 fl_X12_70 h1 rfl ?_
  refine rhF.iload_n (pc := 21) dX12_readRail_21 0 rfl ?_
  refine rhF.aload_n (pc := 22) dX12_readRail_22 1 rfl ?_
  refine rhF.aload_n (pc := 23) dX12_readRail_23 1 rfl ?_
  refine rhF.callV (pc := 24) (ci := 12) (embc := rhe0I _ _) [] dX12_readRail_24 ml_X12_364 mv_X12_railHere ⟨_, rfl, rfl⟩ h1 (c_X12_railHere _ _ _ _) (by decide) (by decide) rfl (Nat.le_of_ble_eq_true rfl) (fun r5 _ => ?_)
  refine rhF.if_lt (pc := 27) 34 dX12_readRail_27 (by decide) (fun h6 => ?_) (fun h6 => ?_)
  · refine rhF.iconst (pc := 34) (v := 0) dX12_readRail_34 (by decide) ?_
    refine rhF.sub [1, 0] rfl ?_
    exact (b_X12_readRail_35) _ _ _ _ _ _ _
  · refine rhF.iconst (pc := 30) (v := 1) dX12_readRail_30 (by decide) ?_
    refine rhF.goto (pc := 31) 35 dX12_readRail_31 (by decide) ?_
    refine rhF.sub [1, 0] rfl ?_
    exact (b_X12_readRail_35) _ _ _ _ _ _ _
theorem c_X12_readRail (E : rhE) (Γ : rhG) (M : rhM) (v0 : Nat) : ∀ a, f_X12_readRail Γ M v0 = some a → rhC E 8 yX12_readRail cX12_readRail 2 none [rhR v0] Γ M ((rhe1U Γ) a) := rhF.met (by decide +kernel) (Nat.le_of_ble_eq_true rfl) (b_X12_readRail M v0)
def f_X12_readLine_177 (Γ : rhG) (M : rhM) (v0 : Nat) : Option (rhM) :=
  rhck (Γ.2.2.1 v0 = 13) <|
  (f_X12_stands Γ M v0 (59 : Int32)).bind fun r46 =>
  (f_X12_must Γ M v0 r46).bind fun r47 =>
  some r47
def f_X12_readLine_142 (Γ : rhG) (M : rhM) (v0 : Nat) (v1 : Int64) : Option (rhM) :=
  if v1 = ((7102839 : Int64)) then
    (rhck (Γ.2.2.1 v0 = 13) <|
    rhck (Γ.2.2.1 (M.2.2 v0 25) = 17) <|
    rhck (0 ≤ (M.1 v0 35).toInt ∧ (M.1 v0 35).toInt < (Γ.2.2.2 (M.2.2 v0 25) : Nat)) <|
    let M40 := rhsi M (M.2.2 v0 25) (M.1 v0 35 : Int32).toNatClampNeg (vp_nar .boolean 1)
    (f_X12_e Γ M40 v0).bind fun r41 =>
    rhck (Γ.2.2.1 (r41.2.2 v0 17) = 15) <|
    rhck (0 ≤ (r41.1 v0 35).toInt ∧ (r41.1 v0 35).toInt < (Γ.2.2.2 (r41.2.2 v0 17) : Nat)) <|
    let M44 := rhsi r41 (r41.2.2 v0 17) (r41.1 v0 35 : Int32).toNatClampNeg (r41.1 v0 36)
    f_X12_readLine_177 Γ M44 v0)
  else
    f_X12_readLine_177 Γ M v0
def f_X12_readLine_107 (Γ : rhG) (M : rhM) (v0 : Nat) (v1 : Int64) : Option (rhM) :=
  if v1 = ((431415719795 : Int64)) then
    (rhck (Γ.2.2.1 v0 = 13) <|
    rhck (Γ.2.2.1 (M.2.2 v0 24) = 17) <|
    rhck (0 ≤ (M.1 v0 35).toInt ∧ (M.1 v0 35).toInt < (Γ.2.2.2 (M.2.2 v0 24) : Nat)) <|
    let M31 := rhsi M (M.2.2 v0 24) (M.1 v0 35 : Int32).toNatClampNeg (vp_nar .boolean 1)
    (f_X12_numeral Γ M31 v0 (1 : Int32) (999 : Int32)).bind fun r32 =>
    rhck (Γ.2.2.1 (M.2.2 v0 16) = 15) <|
    rhck (0 ≤ (M31.1 v0 35).toInt ∧ (M31.1 v0 35).toInt < (Γ.2.2.2 (M.2.2 v0 16) : Nat)) <|
    let M35 := rhsi r32.2 (M.2.2 v0 16) (M31.1 v0 35 : Int32).toNatClampNeg r32.1
    f_X12_readLine_142 Γ M35 v0 v1)
  else
    f_X12_readLine_142 Γ M v0 v1
def f_X12_readLine_72 (Γ : rhG) (M : rhM) (v0 : Nat) (v1 : Int64) : Option (rhM) :=
  if v1 = ((1852138347 : Int64)) then
    (rhck (Γ.2.2.1 v0 = 13) <|
    rhck (Γ.2.2.1 (M.2.2 v0 23) = 17) <|
    rhck (0 ≤ (M.1 v0 35).toInt ∧ (M.1 v0 35).toInt < (Γ.2.2.2 (M.2.2 v0 23) : Nat)) <|
    let M22 := rhsi M (M.2.2 v0 23) (M.1 v0 35 : Int32).toNatClampNeg (vp_nar .boolean 1)
    (f_X12_numeral Γ M22 v0 (1 : Int32) (999 : Int32)).bind fun r23 =>
    rhck (Γ.2.2.1 (M.2.2 v0 15) = 15) <|
    rhck (0 ≤ (M22.1 v0 35).toInt ∧ (M22.1 v0 35).toInt < (Γ.2.2.2 (M.2.2 v0 15) : Nat)) <|
    let M26 := rhsi r23.2 (M.2.2 v0 15) (M22.1 v0 35 : Int32).toNatClampNeg r23.1
    f_X12_readLine_107 Γ M26 v0 v1)
  else
    f_X12_readLine_107 Γ M v0 v1
def f_X12_readLine_60 (Γ : rhG) (M : rhM) (v0 : Nat) (v1 : Int64) : Option (rhM) :=
  if v1 = ((108187867505765 : Int64)) then
    (rhck (Γ.2.2.1 v0 = 13) <|
    (f_X12_readBeside Γ M v0).bind fun r17 =>
    f_X12_readLine_72 Γ r17 v0 v1)
  else
    f_X12_readLine_72 Γ M v0 v1
def f_X12_readLine_48 (Γ : rhG) (M : rhM) (v0 : Nat) (v1 : Int64) : Option (rhM) :=
  if v1 = ((448546567013 : Int64)) then
    (rhck (Γ.2.2.1 v0 = 13) <|
    (f_X12_readHouse Γ M v0).bind fun r14 =>
    f_X12_readLine_60 Γ r14 v0 v1)
  else
    f_X12_readLine_60 Γ M v0 v1
def f_X12_readLine_24 (Γ : rhG) (M : rhM) (v0 : Nat) (v1 : Int64) : Option (rhM) :=
  rhck (Γ.2.2.1 v0 = 13) <|
  (f_X12_isGood Γ M v0).bind fun r7 =>
  if r7 = 0 then
    (some M)
  else
    (f_X12_goOn Γ M v0).bind fun r9 =>
    if v1 = ((1918986604 : Int64)) then
      ((f_X12_readRail Γ r9 v0).bind fun r11 =>
      f_X12_readLine_48 Γ r11 v0 v1)
    else
      f_X12_readLine_48 Γ r9 v0 v1
def f_X12_readLine_20 (k24 : rhM → Nat → Int64 → Option (rhM)) (Γ : rhG) (M : rhM) (v0 : Nat) (v1 : Int64) : Option (rhM) :=
  rhck (Γ.2.2.1 v0 = 13) <|
  (f_X12_misplaced Γ M v0).bind fun r49 =>
  k24 r49 v0 v1
def f_X12_readLine (Γ : rhG) (M : rhM) (v0 : Nat) : Option (rhM) :=
  rhck (Γ.2.2.1 v0 = 13) <|
  let x2 := M.2.1 v0 10
  if (M.1 v0 8) = 3 then
    ((f_X12_isFull Γ M v0).bind fun r4 =>
    if r4 = 0 then
      (f_X12_readLine_24 Γ M v0 x2)
    else
      f_X12_readLine_20 (f_X12_readLine_24 Γ) Γ M v0 x2)
  else
    f_X12_readLine_20 (f_X12_readLine_24 Γ) Γ M v0 x2
set_option maxHeartbeats 4000000 in
set_option maxRecDepth 100000 in
theorem b_X12_readLine_177 {E : rhE} {Γ : rhG} : ∀ (M : rhM) (v0 : Nat), rhF E 9 3 yX12_readLine cX12_readLine none Γ (rhe1U Γ) (f_X12_readLine_177 Γ M v0) 177 [(0, rhR v0)] [] Γ M := by
  intro M v0
  rw [f_X12_readLine_177]
  refine rhF.aload_n (pc := 177) dX12_readLine_177 0 rfl ?_
  refine rhF.aload_n (pc := 178) dX12_readLine_178 0 rfl ?_
  refine rhF.bipush (pc := 179) (v := 59) dX12_readLine_179 (by decide) ?_
  refine rhF.ck (fun h45 => ?_)
  refine rhF.callV (pc := 181) (ci := 12) (embc := rhe0I _ _) [rhI _] dX12_readLine_181 ml_X12_315 mv_X12_stands ⟨_, rfl, rfl⟩ h45 (c_X12_stands _ _ _ _ _) (by decide) (by decide) rfl (Nat.le_of_ble_eq_true rfl) (fun r46 _ => ?_)
  refine rhF.callV (pc := 184) (ci := 12) (embc := rhe1U _) [rhI _] dX12_readLine_184 ml_X12_307 mv_X12_must ⟨_, rfl, rfl⟩ h45 (c_X12_must _ _ _ _ _) (by decide) (by decide) rfl (Nat.le_of_ble_eq_true rfl) (fun r47 _ => ?_)
  exact rhF.vret (pc := 187) dX12_readLine_187 rfl rfl
set_option maxHeartbeats 4000000 in
set_option maxRecDepth 100000 in
theorem b_X12_readLine_142 {E : rhE} {Γ : rhG} : ∀ (M : rhM) (v0 : Nat) (v1 : Int64), rhF E 9 3 yX12_readLine cX12_readLine none Γ (rhe1U Γ) (f_X12_readLine_142 Γ M v0 v1) 142 [(0, rhR v0), (1, rhJ v1)] [] Γ M := by
  intro M v0 v1
  rw [f_X12_readLine_142]
  refine rhF.lload_n (pc := 142) dX12_readLine_142 1 rfl ?_
  refine rhF.ldc2 (pc := 143) dX12_readLine_143 k_X12_238 ?_
  refine rhF.lcne (pc := 146) 177 dX12_readLine_146 dX12_readLine_147 (by decide) (fun h36 => ?_) (fun h36 => ?_)
  · refine rhF.aload_n (pc := 150) dX12_readLine_150 0 rfl ?_
    refine rhF.ck (fun h37 => ?_)
    refine rhF.get (pc := 151) (rhR _) dX12_readLine_151 fl_X12_64 h37 rfl ?_
    refine rhF.aload_n (pc := 154) dX12_readLine_154 0 rfl ?_
    refine rhF.get (pc := 155) (rhI _) dX12_readLine_155 fl_X12_318 h37 rfl ?_
    refine rhF.iconst (pc := 158) (v := 1) dX12_readLine_158 (by decide) ?_
    refine rhF.ck (fun h38 => ?_)
    refine rhF.ck (fun h39 => ?_)
    refine rhF.zast (pc := 159) dX12_readLine_159 h38 h39 ?_
    refine rhF.aload_n (pc := 160) dX12_readLine_160 0 rfl ?_
    refine rhF.callV (pc := 161) (ci := 12) (embc := rhe1U _) [] dX12_readLine_161 ml_X12_357 mv_X12_e ⟨_, rfl, rfl⟩ h37 (c_X12_e _ _ _ _) (by decide) (by decide) rfl (Nat.le_of_ble_eq_true rfl) (fun r41 _ => ?_)
    refine rhF.aload_n (pc := 164) dX12_readLine_164 0 rfl ?_
    refine rhF.get (pc := 165) (rhR _) dX12_readLine_165 fl_X12_39 h37 rfl ?_
    refine rhF.aload_n (pc := 168) dX12_readLine_168 0 rfl ?_
    refine rhF.get (pc := 169) (rhI _) dX12_readLine_169 fl_X12_318 h37 rfl ?_
    refine rhF.aload_n (pc := 172) dX12_readLine_172 0 rfl ?_
    refine rhF.get (pc := 173) (rhI _) dX12_readLine_173 fl_X12_321 h37 rfl ?_
    refine rhF.ck (fun h42 => ?_)
    refine rhF.ck (fun h43 => ?_)
    refine rhF.iast (pc := 176) dX12_readLine_176 h42 h43 ?_
    refine rhF.sub [0] rfl ?_
    exact (b_X12_readLine_177) _ _
  · refine rhF.sub [0] rfl ?_
    exact (b_X12_readLine_177) _ _
set_option maxHeartbeats 4000000 in
set_option maxRecDepth 100000 in
theorem b_X12_readLine_107 {E : rhE} {Γ : rhG} : ∀ (M : rhM) (v0 : Nat) (v1 : Int64), rhF E 9 3 yX12_readLine cX12_readLine none Γ (rhe1U Γ) (f_X12_readLine_107 Γ M v0 v1) 107 [(0, rhR v0), (1, rhJ v1)] [] Γ M := by
  intro M v0 v1
  rw [f_X12_readLine_107]
  refine rhF.lload_n (pc := 107) dX12_readLine_107 1 rfl ?_
  refine rhF.ldc2 (pc := 108) dX12_readLine_108 k_X12_236 ?_
  refine rhF.lcne (pc := 111) 142 dX12_readLine_111 dX12_readLine_112 (by decide) (fun h27 => ?_) (fun h27 => ?_)
  · refine rhF.aload_n (pc := 115) dX12_readLine_115 0 rfl ?_
    refine rhF.ck (fun h28 => ?_)
    refine rhF.get (pc := 116) (rhR _) dX12_readLine_116 fl_X12_61 h28 rfl ?_
    refine rhF.aload_n (pc := 119) dX12_readLine_119 0 rfl ?_
    refine rhF.get (pc := 120) (rhI _) dX12_readLine_120 fl_X12_318 h28 rfl ?_
    refine rhF.iconst (pc := 123) (v := 1) dX12_readLine_123 (by decide) ?_
    refine rhF.ck (fun h29 => ?_)
    refine rhF.ck (fun h30 => ?_)
    refine rhF.zast (pc := 124) dX12_readLine_124 h29 h30 ?_
    refine rhF.aload_n (pc := 125) dX12_readLine_125 0 rfl ?_
    refine rhF.get (pc := 126) (rhR _) dX12_readLine_126 fl_X12_36 h28 rfl ?_
    refine rhF.aload_n (pc := 129) dX12_readLine_129 0 rfl ?_
    refine rhF.get (pc := 130) (rhI _) dX12_readLine_130 fl_X12_318 h28 rfl ?_
    refine rhF.aload_n (pc := 133) dX12_readLine_133 0 rfl ?_
    refine rhF.iconst (pc := 134) (v := 1) dX12_readLine_134 (by decide) ?_
    refine rhF.sipush (pc := 135) (v := 999) dX12_readLine_135 (by decide) ?_
    refine rhF.callV (pc := 138) (ci := 12) (embc := rhe1I _) [rhI _, rhI _] dX12_readLine_138 ml_X12_311 mv_X12_numeral ⟨_, rfl, rfl⟩ h28 (c_X12_numeral _ _ _ _ _ _) (by decide) (by decide) rfl (Nat.le_of_ble_eq_true rfl) (fun r32 _ => ?_)
    refine rhF.ck (fun h33 => ?_)
    refine rhF.ck (fun h34 => ?_)
    refine rhF.iast (pc := 141) dX12_readLine_141 h33 h34 ?_
    exact (b_X12_readLine_142) _ _ _
  · exact (b_X12_readLine_142) _ _ _
set_option maxHeartbeats 4000000 in
set_option maxRecDepth 100000 in
theorem b_X12_readLine_72 {E : rhE} {Γ : rhG} : ∀ (M : rhM) (v0 : Nat) (v1 : Int64), rhF E 9 3 yX12_readLine cX12_readLine none Γ (rhe1U Γ) (f_X12_readLine_72 Γ M v0 v1) 72 [(0, rhR v0), (1, rhJ v1)] [] Γ M := by
  intro M v0 v1
  rw [f_X12_readLine_72]
  refine rhF.lload_n (pc := 72) dX12_readLine_72 1 rfl ?_
  refine rhF.ldc2 (pc := 73) dX12_readLine_73 k_X12_234 ?_
  refine rhF.lcne (pc := 76) 107 dX12_readLine_76 dX12_readLine_77 (by decide) (fun h18 => ?_) (fun h18 => ?_)
  · refine rhF.aload_n (pc := 80) dX12_readLine_80 0 rfl ?_
    refine rhF.ck (fun h19 => ?_)
    refine rhF.get (pc := 81) (rhR _) dX12_readLine_81 fl_X12_57 h19 rfl ?_
    refine rhF.aload_n (pc := 84) dX12_readLine_84 0 rfl ?_
    refine rhF.get (pc := 85) (rhI _) dX12_readLine_85 fl_X12_318 h19 rfl ?_
    refine rhF.iconst (pc := 88) (v := 1) dX12_readLine_88 (by decide) ?_
    refine rhF.ck (fun h20 => ?_)
    refine rhF.ck (fun h21 => ?_)
    refine rhF.zast (pc := 89) dX12_readLine_89 h20 h21 ?_
    refine rhF.aload_n (pc := 90) dX12_readLine_90 0 rfl ?_
    refine rhF.get (pc := 91) (rhR _) dX12_readLine_91 fl_X12_33 h19 rfl ?_
    refine rhF.aload_n (pc := 94) dX12_readLine_94 0 rfl ?_
    refine rhF.get (pc := 95) (rhI _) dX12_readLine_95 fl_X12_318 h19 rfl ?_
    refine rhF.aload_n (pc := 98) dX12_readLine_98 0 rfl ?_
    refine rhF.iconst (pc := 99) (v := 1) dX12_readLine_99 (by decide) ?_
    refine rhF.sipush (pc := 100) (v := 999) dX12_readLine_100 (by decide) ?_
    refine rhF.callV (pc := 103) (ci := 12) (embc := rhe1I _) [rhI _, rhI _] dX12_readLine_103 ml_X12_311 mv_X12_numeral ⟨_, rfl, rfl⟩ h19 (c_X12_numeral _ _ _ _ _ _) (by decide) (by decide) rfl (Nat.le_of_ble_eq_true rfl) (fun r23 _ => ?_)
    refine rhF.ck (fun h24 => ?_)
    refine rhF.ck (fun h25 => ?_)
    refine rhF.iast (pc := 106) dX12_readLine_106 h24 h25 ?_
    exact (b_X12_readLine_107) _ _ _
  · exact (b_X12_readLine_107) _ _ _
set_option maxHeartbeats 4000000 in
set_option maxRecDepth 100000 in
theorem b_X12_readLine_60 {E : rhE} {Γ : rhG} : ∀ (M : rhM) (v0 : Nat) (v1 : Int64), rhF E 9 3 yX12_readLine cX12_readLine none Γ (rhe1U Γ) (f_X12_readLine_60 Γ M v0 v1) 60 [(0, rhR v0), (1, rhJ v1)] [] Γ M := by
  intro M v0 v1
  rw [f_X12_readLine_60]
  refine rhF.lload_n (pc := 60) dX12_readLine_60 1 rfl ?_
  refine rhF.ldc2 (pc := 61) dX12_readLine_61 k_X12_230 ?_
  refine rhF.lcne (pc := 64) 72 dX12_readLine_64 dX12_readLine_65 (by decide) (fun h15 => ?_) (fun h15 => ?_)
  · refine rhF.aload_n (pc := 68) dX12_readLine_68 0 rfl ?_
    refine rhF.ck (fun h16 => ?_)
    refine rhF.callV (pc := 69) (ci := 12) (embc := rhe1U _) [] dX12_readLine_69 ml_X12_354 mv_X12_readBeside ⟨_, rfl, rfl⟩ h16 (c_X12_readBeside _ _ _ _) (by decide) (by decide) rfl (Nat.le_of_ble_eq_true rfl) (fun r17 _ => ?_)
    exact (b_X12_readLine_72) _ _ _
  · exact (b_X12_readLine_72) _ _ _
set_option maxHeartbeats 4000000 in
set_option maxRecDepth 100000 in
theorem b_X12_readLine_48 {E : rhE} {Γ : rhG} : ∀ (M : rhM) (v0 : Nat) (v1 : Int64), rhF E 9 3 yX12_readLine cX12_readLine none Γ (rhe1U Γ) (f_X12_readLine_48 Γ M v0 v1) 48 [(0, rhR v0), (1, rhJ v1)] [] Γ M := by
  intro M v0 v1
  rw [f_X12_readLine_48]
  refine rhF.lload_n (pc := 48) dX12_readLine_48 1 rfl ?_
  refine rhF.ldc2 (pc := 49) dX12_readLine_49 k_X12_224 ?_
  refine rhF.lcne (pc := 52) 60 dX12_readLine_52 dX12_readLine_53 (by decide) (fun h12 => ?_) (fun h12 => ?_)
  · refine rhF.aload_n (pc := 56) dX12_readLine_56 0 rfl ?_
    refine rhF.ck (fun h13 => ?_)
    refine rhF.callV (pc := 57) (ci := 12) (embc := rhe1U _) [] dX12_readLine_57 ml_X12_351 mv_X12_readHouse ⟨_, rfl, rfl⟩ h13 (c_X12_readHouse _ _ _ _) (by decide) (by decide) rfl (Nat.le_of_ble_eq_true rfl) (fun r14 _ => ?_)
    exact (b_X12_readLine_60) _ _ _
  · exact (b_X12_readLine_60) _ _ _
set_option maxHeartbeats 4000000 in
set_option maxRecDepth 100000 in
theorem b_X12_readLine_24 {E : rhE} {Γ : rhG} : ∀ (M : rhM) (v0 : Nat) (v1 : Int64), rhF E 9 3 yX12_readLine cX12_readLine none Γ (rhe1U Γ) (f_X12_readLine_24 Γ M v0 v1) 24 [(0, rhR v0), (1, rhJ v1)] [] Γ M := by
  intro M v0 v1
  rw [f_X12_readLine_24]
  refine rhF.aload_n (pc := 24) dX12_readLine_24 0 rfl ?_
  refine rhF.ck (fun h6 => ?_)
  refine rhF.callV (pc := 25) (ci := 12) (embc := rhe0I _ _) [] dX12_readLine_25 ml_X12_294 mv_X12_isGood ⟨_, rfl, rfl⟩ h6 (c_X12_isGood _ _ _ _) (by decide) (by decide) rfl (Nat.le_of_ble_eq_true rfl) (fun r7 _ => ?_)
  refine rhF.if_ne (pc := 28) 32 dX12_readLine_28 (by decide) (fun h8 => ?_) (fun h8 => ?_)
  · exact rhF.vret (pc := 31) dX12_readLine_31 rfl rfl
  · refine rhF.aload_n (pc := 32) dX12_readLine_32 0 rfl ?_
    refine rhF.callV (pc := 33) (ci := 12) (embc := rhe1U _) [] dX12_readLine_33 ml_X12_298 mv_X12_goOn ⟨_, rfl, rfl⟩ h6 (c_X12_goOn _ _ _ _) (by decide) (by decide) rfl (Nat.le_of_ble_eq_true rfl) (fun r9 _ => ?_)
    refine rhF.lload_n (pc := 36) dX12_readLine_36 1 rfl ?_
    refine rhF.ldc2 (pc := 37) dX12_readLine_37 k_X12_220 ?_
    refine rhF.lcne (pc := 40) 48 dX12_readLine_40 dX12_readLine_41 (by decide) (fun h10 => ?_) (fun h10 => ?_)
    · refine rhF.aload_n (pc := 44) dX12_readLine_44 0 rfl ?_
      refine rhF.callV (pc := 45) (ci := 12) (embc := rhe1U _) [] dX12_readLine_45 ml_X12_348 mv_X12_readRail ⟨_, rfl, rfl⟩ h6 (c_X12_readRail _ _ _ _) (by decide) (by decide) rfl (Nat.le_of_ble_eq_true rfl) (fun r11 _ => ?_)
      exact (b_X12_readLine_48) _ _ _
    · exact (b_X12_readLine_48) _ _ _
set_option maxHeartbeats 4000000 in
set_option maxRecDepth 100000 in
theorem b_X12_readLine_20 {E : rhE} {Γ : rhG} {k24 : rhM → Nat → Int64 → Option (rhM)} (hk24 : ∀ (M : rhM) (v0 : Nat) (v1 : Int64), rhF E 9 3 yX12_readLine cX12_readLine none Γ (rhe1U Γ) (k24 M v0 v1) 24 [(0, rhR v0), (1, rhJ v1)] [] Γ M) : ∀ (M : rhM) (v0 : Nat) (v1 : Int64), rhF E 9 3 yX12_readLine cX12_readLine none Γ (rhe1U Γ) (f_X12_readLine_20 k24 Γ M v0 v1) 20 [(0, rhR v0), (1, rhJ v1)] [] Γ M := by
  intro M v0 v1
  rw [f_X12_readLine_20]
  refine rhF.aload_n (pc := 20) dX12_readLine_20 0 rfl ?_
  refine rhF.ck (fun h48 => ?_)
  refine rhF.callV (pc := 21) (ci := 12) (embc := rhe1U _) [] dX12_readLine_21 ml_X12_301 mv_X12_misplaced ⟨_, rfl, rfl⟩ h48 (c_X12_misplaced _ _ _ _) (by decide) (by decide) rfl (Nat.le_of_ble_eq_true rfl) (fun r49 _ => ?_)
  exact hk24 _ _ _
set_option maxHeartbeats 4000000 in
set_option maxRecDepth 100000 in
theorem b_X12_readLine {E : rhE} {Γ : rhG} : ∀ (M : rhM) (v0 : Nat), rhF E 9 3 yX12_readLine cX12_readLine none Γ (rhe1U Γ) (f_X12_readLine Γ M v0) 0 [(0, rhR v0)] [] Γ M := by
  intro M v0
  rw [f_X12_readLine]
  refine rhF.aload_n (pc := 0) dX12_readLine_0 0 rfl ?_
  refine rhF.ck (fun h1 => ?_)
  refine rhF.get (pc := 1) (rhJ _) dX12_readLine_1 fl_X12_273 h1 rfl ?_
  refine rhF.lstore_n (pc := 4) (L' := [(1, rhJ _), (0, rhR _)]) dX12_readLine_4 (by decide) rfl ?_
  refine rhF.aload_n (pc := 5) dX12_readLine_5 1 rfl ?_
  refine rhF.get (pc := 6) (rhI _) dX12_readLine_6 fl_X12_266 h1 rfl ?_
  refine rhF.iconst (pc := 9) (v := 3) dX12_readLine_9 (by decide) ?_
  refine rhF.icmp_ne (pc := 10) 20 dX12_readLine_10 (by decide) (fun h3 => ?_) (fun h3 => ?_)
  · refine rhF.aload_n (pc := 13) dX12_readLine_13 1 rfl ?_
    refine rhF.callV (pc := 14) (ci := 12) (embc := rhe0I _ _) [] dX12_readLine_14 ml_X12_345 mv_X12_isFull ⟨_, rfl, rfl⟩ h1 (c_X12_isFull _ _ _ _) (by decide) (by decide) rfl (Nat.le_of_ble_eq_true rfl) (fun r4 _ => ?_)
    refine rhF.if_eq (pc := 17) 24 dX12_readLine_17 (by decide) (fun h5 => ?_) (fun h5 => ?_)
    · refine rhF.sub [1, 0] rfl ?_
      exact (b_X12_readLine_24) _ _ _
    · refine rhF.sub [1, 0] rfl ?_
      exact (b_X12_readLine_20 (b_X12_readLine_24)) _ _ _
  · refine rhF.sub [1, 0] rfl ?_
    exact (b_X12_readLine_20 (b_X12_readLine_24)) _ _ _
theorem c_X12_readLine (E : rhE) (Γ : rhG) (M : rhM) (v0 : Nat) : ∀ a, f_X12_readLine Γ M v0 = some a → rhC E 9 yX12_readLine cX12_readLine 3 none [rhR v0] Γ M ((rhe1U Γ) a) := rhF.met (by decide +kernel) (Nat.le_of_ble_eq_true rfl) (b_X12_readLine M v0)
def f_X12_richest_75 (k88 : rhM → Nat → Int32 → Int32 → Int32 → Option (Int32 × rhM)) (Γ : rhG) (M : rhM) (v0 : Nat) (v4 : Int32) : Option (Int32 × rhM) :=
  rhck (Γ.2.2.1 v0 = 13) <|
  rhck (Γ.2.2.1 (M.2.2 v0 58) = 15) <|
  rhck (0 ≤ (v4).toInt ∧ (v4).toInt < (Γ.2.2.2 (M.2.2 v0 58) : Nat)) <|
  let x17 := M.1 (M.2.2 v0 58) v4.toNatClampNeg
  (f_X12_worthOfRow Γ M v0).bind fun r18 =>
  k88 M v0 x17 r18 v4
def f_X12_richest_88 (k40 : rhM → Nat → Int32 → Int32 → Int32 → Option (Int32 × rhM)) (Γ : rhG) (M : rhM) (v0 : Nat) (v2 : Int32) (v3 : Int32) (v4 : Int32) : Option (Int32 × rhM) :=
  let x19 : Int32 := v4 + 1
  k40 M v0 v2 v3 x19
def f_X12_richest_40 (k94 : rhM → Nat → Int32 → Int32 → Option (Int32 × rhM)) (Γ : rhG) : Nat → rhM → Nat → Int32 → Int32 → Int32 → Option (Int32 × rhM)
  | 0, _, _, _, _, _ => none
  | n + 1, M, v0, v2, v3, v4 =>
    rhck (Γ.2.2.1 v0 = 13) <|
    if v4 < (M.1 v0 60) then
      (rhck (Γ.2.2.1 (M.2.2 v0 58) = 15) <|
      rhck (0 ≤ (v4).toInt ∧ (v4).toInt < (Γ.2.2.2 (M.2.2 v0 58) : Nat)) <|
      (f_X12_layState Γ M v0 (M.1 (M.2.2 v0 58) v4.toNatClampNeg)).bind fun r12 =>
      if v2 < 0 then
        (f_X12_richest_75 (f_X12_richest_88 (f_X12_richest_40 k94 Γ n) Γ) Γ r12 v0 v4)
      else
        (f_X12_worthOfRow Γ r12 v0).bind fun r20 =>
        if v3 < r20 then
          (f_X12_richest_75 (f_X12_richest_88 (f_X12_richest_40 k94 Γ n) Γ) Γ r12 v0 v4)
        else
          f_X12_richest_88 (f_X12_richest_40 k94 Γ n) Γ r12 v0 v2 v3 v4)
    else
      k94 M v0 v2 v3
def f_X12_richest_94 (Γ : rhG) (M : rhM) (v0 : Nat) (v2 : Int32) (v3 : Int32) : Option (Int32 × rhM) :=
  rhck (Γ.2.2.1 v0 = 13) <|
  (f_X12_layWay Γ M v0 v2).bind fun r23 =>
  some ((v3, r23))
def f_X12_richest (Γ : rhG) (M : rhM) (v0 : Nat) (v1 : Int32) : Option (Int32 × rhM) :=
  rhck (Γ.2.2.1 v0 = 13) <|
  let M2 := rhsi M v0 66 0
  (f_X12_isIn Γ M2 v1 (0 : Int32) (30 : Int32)).bind fun r3 =>
  if r3 = 0 then
    (some (((-1000000), M2)))
  else
    (f_X12_isMany Γ M2 v0).bind fun r5 =>
    if r5 = 0 then
      ((f_X12_search Γ M2 v0 (2 : Int32) v1).bind fun r7 =>
      f_X12_richest_40 (f_X12_richest_94 Γ) Γ rhFU r7.2 v0 ((-1)) 0 0)
    else
      some (((-1000000), M2))
set_option maxHeartbeats 4000000 in
set_option maxRecDepth 100000 in
theorem b_X12_richest_75 {E : rhE} {Γ : rhG} {k88 : rhM → Nat → Int32 → Int32 → Int32 → Option (Int32 × rhM)} (hk88 : ∀ (M : rhM) (v0 : Nat) (v2 : Int32) (v3 : Int32) (v4 : Int32), rhF E 11 5 yX12_richest cX12_richest (some .int) Γ (rhe1I Γ) (k88 M v0 v2 v3 v4) 88 [(0, rhR v0), (2, rhI v2), (3, rhI v3), (4, rhI v4)] [] Γ M) : ∀ (M : rhM) (v0 : Nat) (v4 : Int32), rhF E 11 5 yX12_richest cX12_richest (some .int) Γ (rhe1I Γ) (f_X12_richest_75 k88 Γ M v0 v4) 75 [(0, rhR v0), (4, rhI v4)] [] Γ M := by
  intro M v0 v4
  rw [f_X12_richest_75]
  refine rhF.aload_n (pc := 75) dX12_richest_75 0 rfl ?_
  refine rhF.ck (fun h14 => ?_)
  refine rhF.get (pc := 76) (rhR _) dX12_richest_76 fl_X12_136 h14 rfl ?_
  refine rhF.iload (pc := 79) dX12_richest_79 1 rfl ?_
  refine rhF.ck (fun h15 => ?_)
  refine rhF.ck (fun h16 => ?_)
  refine rhF.iald (pc := 81) dX12_richest_81 h15 h16 ?_
  refine rhF.istore_n (pc := 82) (L' := [(2, rhI _), (0, rhR _), (4, rhI _)]) dX12_richest_82 (by decide) rfl ?_
  refine rhF.aload_n (pc := 83) dX12_richest_83 1 rfl ?_
  refine rhF.callV (pc := 84) (ci := 12) (embc := rhe0I _ _) [] dX12_richest_84 ml_X12_478 mv_X12_worthOfRow ⟨_, rfl, rfl⟩ h14 (c_X12_worthOfRow _ _ _ _) (by decide) (by decide) rfl (Nat.le_of_ble_eq_true rfl) (fun r18 _ => ?_)
  refine rhF.istore_n (pc := 87) (L' := [(3, rhI _), (2, rhI _), (0, rhR _), (4, rhI _)]) dX12_richest_87 (by decide) rfl ?_
  refine rhF.sub [2, 1, 0, 3] rfl ?_
  exact hk88 _ _ _ _ _
set_option maxHeartbeats 4000000 in
set_option maxRecDepth 100000 in
theorem b_X12_richest_88 {E : rhE} {Γ : rhG} {k40 : rhM → Nat → Int32 → Int32 → Int32 → Option (Int32 × rhM)} (hk40 : ∀ (M : rhM) (v0 : Nat) (v2 : Int32) (v3 : Int32) (v4 : Int32), rhF E 11 5 yX12_richest cX12_richest (some .int) Γ (rhe1I Γ) (k40 M v0 v2 v3 v4) 40 [(0, rhR v0), (2, rhI v2), (3, rhI v3), (4, rhI v4)] [] Γ M) : ∀ (M : rhM) (v0 : Nat) (v2 : Int32) (v3 : Int32) (v4 : Int32), rhF E 11 5 yX12_richest cX12_richest (some .int) Γ (rhe1I Γ) (f_X12_richest_88 k40 Γ M v0 v2 v3 v4) 88 [(0, rhR v0), (2, rhI v2), (3, rhI v3), (4, rhI v4)] [] Γ M := by
  intro M v0 v2 v3 v4
  rw [f_X12_richest_88]
  refine rhF.iinc (pc := 88) (L' := [(4, rhI _), (0, rhR _), (2, rhI _), (3, rhI _)]) dX12_richest_88 3 rfl rfl (by decide) rfl ?_
  refine rhF.goto (pc := 91) 40 dX12_richest_91 (by decide) ?_
  refine rhF.sub [1, 2, 3, 0] rfl ?_
  exact hk40 _ _ _ _ _
set_option maxHeartbeats 4000000 in
set_option maxRecDepth 100000 in
theorem b_X12_richest_40 {E : rhE} {Γ : rhG} {k94 : rhM → Nat → Int32 → Int32 → Option (Int32 × rhM)} (hk94 : ∀ (M : rhM) (v0 : Nat) (v2 : Int32) (v3 : Int32), rhF E 11 5 yX12_richest cX12_richest (some .int) Γ (rhe1I Γ) (k94 M v0 v2 v3) 94 [(0, rhR v0), (2, rhI v2), (3, rhI v3)] [] Γ M) : ∀ (n : Nat) (M : rhM) (v0 : Nat) (v2 : Int32) (v3 : Int32) (v4 : Int32), rhF E 11 5 yX12_richest cX12_richest (some .int) Γ (rhe1I Γ) (f_X12_richest_40 k94 Γ n M v0 v2 v3 v4) 40 [(0, rhR v0), (2, rhI v2), (3, rhI v3), (4, rhI v4)] [] Γ M := by
  intro n
  induction n with
  | zero => intro M v0 v2 v3 v4; rw [f_X12_richest_40]; exact rhF.nope
  | succ n ih =>
    intro M v0 v2 v3 v4
    rw [f_X12_richest_40]
    refine rhF.iload (pc := 40) dX12_richest_40 3 rfl ?_
    refine rhF.aload_n (pc := 42) dX12_richest_42 0 rfl ?_
    refine rhF.ck (fun h8 => ?_)
    refine rhF.get (pc := 43) (rhI _) dX12_richest_43 fl_X12_493 h8 rfl ?_
    refine rhF.icmp_ge (pc := 46) 94 dX12_richest_46 (by decide) (fun h9 => ?_) (fun h9 => ?_)
    · refine rhF.aload_n (pc := 49) dX12_richest_49 0 rfl ?_
      refine rhF.aload_n (pc := 50) dX12_richest_50 0 rfl ?_
      refine rhF.get (pc := 51) (rhR _) dX12_richest_51 fl_X12_136 h8 rfl ?_
      refine rhF.iload (pc := 54) dX12_richest_54 3 rfl ?_
      refine rhF.ck (fun h10 => ?_)
      refine rhF.ck (fun h11 => ?_)
      refine rhF.iald (pc := 56) dX12_richest_56 h10 h11 ?_
      refine rhF.callV (pc := 57) (ci := 12) (embc := rhe1U _) [rhI _] dX12_richest_57 ml_X12_499 mv_X12_layState ⟨_, rfl, rfl⟩ h8 (c_X12_layState _ _ _ _ _) (by decide) (by decide) rfl (Nat.le_of_ble_eq_true rfl) (fun r12 _ => ?_)
      refine rhF.iload_n (pc := 60) dX12_richest_60 1 rfl ?_
      refine rhF.if_lt (pc := 61) 75 dX12_richest_61 (by decide) (fun h13 => ?_) (fun h13 => ?_)
      · refine rhF.sub [0, 3] rfl ?_
        exact (b_X12_richest_75 (b_X12_richest_88 ih)) _ _ _
      · refine rhF.aload_n (pc := 64) dX12_richest_64 0 rfl ?_
        refine rhF.callV (pc := 65) (ci := 12) (embc := rhe0I _ _) [] dX12_richest_65 ml_X12_478 mv_X12_worthOfRow ⟨_, rfl, rfl⟩ h8 (c_X12_worthOfRow _ _ _ _) (by decide) (by decide) rfl (Nat.le_of_ble_eq_true rfl) (fun r20 _ => ?_)
        refine rhF.iload_n (pc := 68) dX12_richest_68 2 rfl ?_
        refine rhF.icmp_gt (pc := 69) 75 dX12_richest_69 (by decide) (fun h21 => ?_) (fun h21 => ?_)
        · refine rhF.sub [0, 3] rfl ?_
          exact (b_X12_richest_75 (b_X12_richest_88 ih)) _ _ _
        · refine rhF.goto (pc := 72) 88 dX12_richest_72 (by decide) ?_
          exact (b_X12_richest_88 ih) _ _ _ _ _
    · refine rhF.sub [0, 1, 2] rfl ?_
      exact hk94 _ _ _ _
set_option maxHeartbeats 4000000 in
set_option maxRecDepth 100000 in
theorem b_X12_richest_94 {E : rhE} {Γ : rhG} : ∀ (M : rhM) (v0 : Nat) (v2 : Int32) (v3 : Int32), rhF E 11 5 yX12_richest cX12_richest (some .int) Γ (rhe1I Γ) (f_X12_richest_94 Γ M v0 v2 v3) 94 [(0, rhR v0), (2, rhI v2), (3, rhI v3)] [] Γ M := by
  intro M v0 v2 v3
  rw [f_X12_richest_94]
  refine rhF.aload_n (pc := 94) dX12_richest_94 0 rfl ?_
  refine rhF.iload_n (pc := 95) dX12_richest_95 1 rfl ?_
  refine rhF.ck (fun h22 => ?_)
  refine rhF.callV (pc := 96) (ci := 12) (embc := rhe1U _) [rhI _] dX12_richest_96 ml_X12_521 mv_X12_layWay ⟨_, rfl, rfl⟩ h22 (c_X12_layWay _ _ _ _ _) (by decide) (by decide) rfl (Nat.le_of_ble_eq_true rfl) (fun r23 _ => ?_)
  refine rhF.iload_n (pc := 99) dX12_richest_99 2 rfl ?_
  exact rhF.zret (pc := 100) dX12_richest_100 rfl rfl rfl
set_option maxHeartbeats 4000000 in
set_option maxRecDepth 100000 in
theorem b_X12_richest {E : rhE} {Γ : rhG} : ∀ (M : rhM) (v0 : Nat) (v1 : Int32), rhF E 11 5 yX12_richest cX12_richest (some .int) Γ (rhe1I Γ) (f_X12_richest Γ M v0 v1) 0 [(0, rhR v0), (1, rhI v1)] [] Γ M := by
  intro M v0 v1
  rw [f_X12_richest]
  refine rhF.aload_n (pc := 0) dX12_richest_0 0 rfl ?_
  refine rhF.iconst (pc := 1) (v := 0) dX12_richest_1 (by decide) ?_
  refine rhF.ck (fun h1 => ?_)
  refine rhF.puti (pc := 2) dX12_richest_2 fl_X12_342 h1 (fun q hq => by cases hq; exact Or.inl rfl) ⟨rfl, rfl⟩ (fun _ => rfl) ?_
  refine rhF.iload_n (pc := 5) dX12_richest_5 1 rfl ?_
  refine rhF.iconst (pc := 6) (v := 0) dX12_richest_6 (by decide) ?_
  refine rhF.bipush (pc := 7) (v := 30) dX12_richest_7 (by decide) ?_
  refine rhF.callS (pc := 9) (embc := rhe0I _ _) [rhI _, rhI _, rhI _] dX12_richest_9 ml_X12_415 ms_X12_isIn (c_X12_isIn _ _ _ _ _ _) (by decide) (by decide) rfl (Nat.le_of_ble_eq_true rfl) (fun r3 _ => ?_)
  refine rhF.if_eq (pc := 12) 22 dX12_richest_12 (by decide) (fun h4 => ?_) (fun h4 => ?_)
  · refine rhF.ldcw (pc := 22) dX12_richest_22 k_X12_470 ?_
    exact rhF.zret (pc := 25) dX12_richest_25 rfl rfl rfl
  · refine rhF.aload_n (pc := 15) dX12_richest_15 0 rfl ?_
    refine rhF.callV (pc := 16) (ci := 12) (embc := rhe0I _ _) [] dX12_richest_16 ml_X12_515 mv_X12_isMany ⟨_, rfl, rfl⟩ h1 (c_X12_isMany _ _ _ _) (by decide) (by decide) rfl (Nat.le_of_ble_eq_true rfl) (fun r5 _ => ?_)
    refine rhF.if_eq (pc := 19) 26 dX12_richest_19 (by decide) (fun h6 => ?_) (fun h6 => ?_)
    · refine rhF.aload_n (pc := 26) dX12_richest_26 0 rfl ?_
      refine rhF.iconst (pc := 27) (v := 2) dX12_richest_27 (by decide) ?_
      refine rhF.iload_n (pc := 28) dX12_richest_28 1 rfl ?_
      refine rhF.callV (pc := 29) (ci := 12) (embc := rhe1I _) [rhI _, rhI _] dX12_richest_29 ml_X12_518 mv_X12_search ⟨_, rfl, rfl⟩ h1 (c_X12_search _ _ _ _ _ _) (by decide) (by decide) rfl (Nat.le_of_ble_eq_true rfl) (fun r7 _ => ?_)
      refine rhF.pop (pc := 32) dX12_richest_32 ?_
      refine rhF.iconst (pc := 33) (v := (-1)) dX12_richest_33 (by decide) ?_
      refine rhF.istore_n (pc := 34) (L' := [(2, rhI _), (0, rhR _), (1, rhI _)]) dX12_richest_34 (by decide) rfl ?_
      refine rhF.iconst (pc := 35) (v := 0) dX12_richest_35 (by decide) ?_
      refine rhF.istore_n (pc := 36) (L' := [(3, rhI _), (2, rhI _), (0, rhR _), (1, rhI _)]) dX12_richest_36 (by decide) rfl ?_
      refine rhF.iconst (pc := 37) (v := 0) dX12_richest_37 (by decide) ?_
      refine rhF.istore (pc := 38) (L' := [(4, rhI _), (3, rhI _), (2, rhI _), (0, rhR _), (1, rhI _)]) dX12_richest_38 (by decide) rfl ?_
      refine rhF.sub [3, 2, 1, 0] rfl ?_
      exact (b_X12_richest_40 (b_X12_richest_94) rhFU) _ _ _ _ _
    · refine rhF.ldcw (pc := 22) dX12_richest_22 k_X12_470 ?_
      exact rhF.zret (pc := 25) dX12_richest_25 rfl rfl rfl
theorem c_X12_richest (E : rhE) (Γ : rhG) (M : rhM) (v0 : Nat) (v1 : Int32) : ∀ a, f_X12_richest Γ M v0 v1 = some a → rhC E 11 yX12_richest cX12_richest 5 (some .int) [rhR v0, rhI v1] Γ M ((rhe1I Γ) a) := rhF.met (by decide +kernel) (Nat.le_of_ble_eq_true rfl) (b_X12_richest M v0 v1)
def f_X12_room (Γ : rhG) (M : rhM) (v0 : Nat) (v1 : Int32) : Option (Int32 × rhM) :=
  rhck (Γ.2.2.1 v0 = 13) <|
  (f_X12_isRail Γ M v0 v1).bind fun r2 =>
  if r2 = 0 then
    (some (((-1), M)))
  else
    (f_X12_layNow Γ M v0).bind fun r4 =>
    (f_X12_roomOn Γ r4 v0 v1).bind fun r5 =>
    some ((r5, r4))
set_option maxHeartbeats 4000000 in
set_option maxRecDepth 100000 in
theorem b_X12_room {E : rhE} {Γ : rhG} : ∀ (M : rhM) (v0 : Nat) (v1 : Int32), rhF E 6 2 yX12_room cX12_room (some .int) Γ (rhe1I Γ) (f_X12_room Γ M v0 v1) 0 [(0, rhR v0), (1, rhI v1)] [] Γ M := by
  intro M v0 v1
  rw [f_X12_room]
  refine rhF.aload_n (pc := 0) dX12_room_0 0 rfl ?_
  refine rhF.iload_n (pc := 1) dX12_room_1 1 rfl ?_
  refine rhF.ck (fun h1 => ?_)
  refine rhF.callV (pc := 2) (ci := 12) (embc := rhe0I _ _) [rhI _] dX12_room_2 ml_X12_428 mv_X12_isRail ⟨_, rfl, rfl⟩ h1 (c_X12_isRail _ _ _ _ _) (by decide) (by decide) rfl (Nat.le_of_ble_eq_true rfl) (fun r2 _ => ?_)
  refine rhF.if_ne (pc := 5) 10 dX12_room_5 (by decide) (fun h3 => ?_) (fun h3 => ?_)
  · refine rhF.iconst (pc := 8) (v := (-1)) dX12_room_8 (by decide) ?_
    exact rhF.zret (pc := 9) dX12_room_9 rfl rfl rfl
  · refine rhF.aload_n (pc := 10) dX12_room_10 0 rfl ?_
    refine rhF.callV (pc := 11) (ci := 12) (embc := rhe1U _) [] dX12_room_11 ml_X12_467 mv_X12_layNow ⟨_, rfl, rfl⟩ h1 (c_X12_layNow _ _ _ _) (by decide) (by decide) rfl (Nat.le_of_ble_eq_true rfl) (fun r4 _ => ?_)
    refine rhF.aload_n (pc := 14) dX12_room_14 0 rfl ?_
    refine rhF.iload_n (pc := 15) dX12_room_15 1 rfl ?_
    refine rhF.callV (pc := 16) (ci := 12) (embc := rhe0I _ _) [rhI _] dX12_room_16 ml_X12_435 mv_X12_roomOn ⟨_, rfl, rfl⟩ h1 (c_X12_roomOn _ _ _ _ _) (by decide) (by decide) rfl (Nat.le_of_ble_eq_true rfl) (fun r5 _ => ?_)
    exact rhF.zret (pc := 19) dX12_room_19 rfl rfl rfl
theorem c_X12_room (E : rhE) (Γ : rhG) (M : rhM) (v0 : Nat) (v1 : Int32) : ∀ a, f_X12_room Γ M v0 v1 = some a → rhC E 6 yX12_room cX12_room 2 (some .int) [rhR v0, rhI v1] Γ M ((rhe1I Γ) a) := rhF.met (by decide +kernel) (Nat.le_of_ble_eq_true rfl) (b_X12_room M v0 v1)
