def f_X12_signed_74 (Γ : rhG) (M : rhM) (v0 : Nat) (s0 : Int32) : Option (Int32 × rhM) :=
  rhck (Γ.2.2.1 v0 = 13) <|
  (f_X12_isGood Γ M v0).bind fun r14 =>
  if r14 = 0 then
    (some ((s0, M)))
  else
    (f_X12_goOn Γ M v0).bind fun r16 =>
    some ((s0, r16))
def f_X12_signed_58 (Γ : rhG) (M : rhM) (v0 : Nat) (v3 : Int32) : Option (Int32 × rhM) :=
  if v3 = 0 then
    (rhck (Γ.2.2.1 v0 = 13) <|
    f_X12_signed_74 Γ M v0 (M.1 v0 9))
  else
    rhck (Γ.2.2.1 v0 = 13) <|
    f_X12_signed_74 Γ M v0 (-(M.1 v0 9))
def f_X12_signed_29 (Γ : rhG) (M : rhM) (v0 : Nat) (v1 : Int32) (v2 : Int32) (v3 : Int32) : Option (Int32 × rhM) :=
  rhck (Γ.2.2.1 v0 = 13) <|
  if (M.1 v0 8) = 4 then
    (if v1 < (M.1 v0 9) then
      ((f_X12_fails Γ M v0 (4 : Int32) v2).bind fun r10 =>
      f_X12_signed_58 Γ r10 v0 v3)
    else
      f_X12_signed_58 Γ M v0 v3)
  else
    (f_X12_misplaced Γ M v0).bind fun r18 =>
    f_X12_signed_58 Γ r18 v0 v3
def f_X12_signed (Γ : rhG) (M : rhM) (v0 : Nat) (v1 : Int32) : Option (Int32 × rhM) :=
  rhck (Γ.2.2.1 v0 = 13) <|
  (f_X12_isGood Γ M v0).bind fun r2 =>
  if r2 = 0 then
    (some ((0, M)))
  else
    let x4 := M.1 v0 6
    (f_X12_stands Γ M v0 (45 : Int32)).bind fun r5 =>
    if r5 = 0 then
      (f_X12_signed_29 Γ M v0 v1 x4 r5)
    else
      (f_X12_goOn Γ M v0).bind fun r19 =>
      f_X12_signed_29 Γ r19 v0 v1 x4 r5
set_option maxHeartbeats 4000000 in
set_option maxRecDepth 100000 in
theorem b_X12_signed_74 {E : rhE} {Γ : rhG} : ∀ (M : rhM) (v0 : Nat) (s0 : Int32), rhF E 6 5 yX12_signed cX12_signed (some .int) Γ (rhe1I Γ) (f_X12_signed_74 Γ M v0 s0) 74 [(0, rhR v0)] [rhI s0] Γ M := by
  intro M v0 s0
  rw [f_X12_signed_74]
  refine rhF.istore (pc := 74) (L' := [(4, rhI _), (0, rhR _)]) dX12_signed_74 (by decide) rfl ?_
  refine rhF.aload_n (pc := 76) dX12_signed_76 1 rfl ?_
  refine rhF.ck (fun h13 => ?_)
  refine rhF.callV (pc := 77) (ci := 12) (embc := rhe0I _ _) [] dX12_signed_77 ml_X12_294 mv_X12_isGood ⟨_, rfl, rfl⟩ h13 (c_X12_isGood _ _ _ _) (by decide) (by decide) rfl (Nat.le_of_ble_eq_true rfl) (fun r14 _ => ?_)
  refine rhF.if_eq (pc := 80) 87 dX12_signed_80 (by decide) (fun h15 => ?_) (fun h15 => ?_)
  · refine rhF.iload (pc := 87) dX12_signed_87 0 rfl ?_
    exact rhF.zret (pc := 89) dX12_signed_89 rfl rfl rfl
  · refine rhF.aload_n (pc := 83) dX12_signed_83 1 rfl ?_
    refine rhF.callV (pc := 84) (ci := 12) (embc := rhe1U _) [] dX12_signed_84 ml_X12_298 mv_X12_goOn ⟨_, rfl, rfl⟩ h13 (c_X12_goOn _ _ _ _) (by decide) (by decide) rfl (Nat.le_of_ble_eq_true rfl) (fun r16 _ => ?_)
    refine rhF.iload (pc := 87) dX12_signed_87 0 rfl ?_
    exact rhF.zret (pc := 89) dX12_signed_89 rfl rfl rfl
set_option maxHeartbeats 4000000 in
set_option maxRecDepth 100000 in
theorem b_X12_signed_58 {E : rhE} {Γ : rhG} : ∀ (M : rhM) (v0 : Nat) (v3 : Int32), rhF E 6 5 yX12_signed cX12_signed (some .int) Γ (rhe1I Γ) (f_X12_signed_58 Γ M v0 v3) 58 [(0, rhR v0), (3, rhI v3)] [] Γ M := by
  intro M v0 v3
  rw [f_X12_signed_58]
  refine rhF.iload_n (pc := 58) dX12_signed_58 1 rfl ?_
  refine rhF.if_eq (pc := 59) 70 dX12_signed_59 (by decide) (fun h11 => ?_) (fun h11 => ?_)
  · refine rhF.aload_n (pc := 70) dX12_signed_70 0 rfl ?_
    refine rhF.ck (fun h12 => ?_)
    refine rhF.get (pc := 71) (rhI _) dX12_signed_71 fl_X12_284 h12 rfl ?_
    refine rhF.sub [0] rfl ?_
    exact (b_X12_signed_74) _ _ _
  · refine rhF.aload_n (pc := 62) dX12_signed_62 0 rfl ?_
    refine rhF.ck (fun h17 => ?_)
    refine rhF.get (pc := 63) (rhI _) dX12_signed_63 fl_X12_284 h17 rfl ?_
    refine rhF.ineg (pc := 66) dX12_signed_66 ?_
    refine rhF.goto (pc := 67) 74 dX12_signed_67 (by decide) ?_
    refine rhF.sub [0] rfl ?_
    exact (b_X12_signed_74) _ _ _
set_option maxHeartbeats 4000000 in
set_option maxRecDepth 100000 in
theorem b_X12_signed_29 {E : rhE} {Γ : rhG} : ∀ (M : rhM) (v0 : Nat) (v1 : Int32) (v2 : Int32) (v3 : Int32), rhF E 6 5 yX12_signed cX12_signed (some .int) Γ (rhe1I Γ) (f_X12_signed_29 Γ M v0 v1 v2 v3) 29 [(0, rhR v0), (1, rhI v1), (2, rhI v2), (3, rhI v3)] [] Γ M := by
  intro M v0 v1 v2 v3
  rw [f_X12_signed_29]
  refine rhF.aload_n (pc := 29) dX12_signed_29 0 rfl ?_
  refine rhF.ck (fun h7 => ?_)
  refine rhF.get (pc := 30) (rhI _) dX12_signed_30 fl_X12_266 h7 rfl ?_
  refine rhF.iconst (pc := 33) (v := 4) dX12_signed_33 (by decide) ?_
  refine rhF.icmp_eq (pc := 34) 44 dX12_signed_34 (by decide) (fun h8 => ?_) (fun h8 => ?_)
  · refine rhF.aload_n (pc := 44) dX12_signed_44 0 rfl ?_
    refine rhF.get (pc := 45) (rhI _) dX12_signed_45 fl_X12_284 h7 rfl ?_
    refine rhF.iload_n (pc := 48) dX12_signed_48 1 rfl ?_
    refine rhF.icmp_le (pc := 49) 58 dX12_signed_49 (by decide) (fun h9 => ?_) (fun h9 => ?_)
    · refine rhF.aload_n (pc := 52) dX12_signed_52 0 rfl ?_
      refine rhF.iconst (pc := 53) (v := 4) dX12_signed_53 (by decide) ?_
      refine rhF.iload_n (pc := 54) dX12_signed_54 2 rfl ?_
      refine rhF.callV (pc := 55) (ci := 12) (embc := rhe1U _) [rhI _, rhI _] dX12_signed_55 ml_X12_290 mv_X12_fails ⟨_, rfl, rfl⟩ h7 (c_X12_fails _ _ _ _ _ _) (by decide) (by decide) rfl (Nat.le_of_ble_eq_true rfl) (fun r10 _ => ?_)
      refine rhF.sub [0, 3] rfl ?_
      exact (b_X12_signed_58) _ _ _
    · refine rhF.sub [0, 3] rfl ?_
      exact (b_X12_signed_58) _ _ _
  · refine rhF.aload_n (pc := 37) dX12_signed_37 0 rfl ?_
    refine rhF.callV (pc := 38) (ci := 12) (embc := rhe1U _) [] dX12_signed_38 ml_X12_301 mv_X12_misplaced ⟨_, rfl, rfl⟩ h7 (c_X12_misplaced _ _ _ _) (by decide) (by decide) rfl (Nat.le_of_ble_eq_true rfl) (fun r18 _ => ?_)
    refine rhF.goto (pc := 41) 58 dX12_signed_41 (by decide) ?_
    refine rhF.sub [0, 3] rfl ?_
    exact (b_X12_signed_58) _ _ _
set_option maxHeartbeats 4000000 in
set_option maxRecDepth 100000 in
theorem b_X12_signed {E : rhE} {Γ : rhG} : ∀ (M : rhM) (v0 : Nat) (v1 : Int32), rhF E 6 5 yX12_signed cX12_signed (some .int) Γ (rhe1I Γ) (f_X12_signed Γ M v0 v1) 0 [(0, rhR v0), (1, rhI v1)] [] Γ M := by
  intro M v0 v1
  rw [f_X12_signed]
  refine rhF.aload_n (pc := 0) dX12_signed_0 0 rfl ?_
  refine rhF.ck (fun h1 => ?_)
  refine rhF.callV (pc := 1) (ci := 12) (embc := rhe0I _ _) [] dX12_signed_1 ml_X12_294 mv_X12_isGood ⟨_, rfl, rfl⟩ h1 (c_X12_isGood _ _ _ _) (by decide) (by decide) rfl (Nat.le_of_ble_eq_true rfl) (fun r2 _ => ?_)
  refine rhF.if_ne (pc := 4) 9 dX12_signed_4 (by decide) (fun h3 => ?_) (fun h3 => ?_)
  · refine rhF.iconst (pc := 7) (v := 0) dX12_signed_7 (by decide) ?_
    exact rhF.zret (pc := 8) dX12_signed_8 rfl rfl rfl
  · refine rhF.aload_n (pc := 9) dX12_signed_9 0 rfl ?_
    refine rhF.get (pc := 10) (rhI _) dX12_signed_10 fl_X12_259 h1 rfl ?_
    refine rhF.istore_n (pc := 13) (L' := [(2, rhI _), (0, rhR _), (1, rhI _)]) dX12_signed_13 (by decide) rfl ?_
    refine rhF.aload_n (pc := 14) dX12_signed_14 1 rfl ?_
    refine rhF.bipush (pc := 15) (v := 45) dX12_signed_15 (by decide) ?_
    refine rhF.callV (pc := 17) (ci := 12) (embc := rhe0I _ _) [rhI _] dX12_signed_17 ml_X12_315 mv_X12_stands ⟨_, rfl, rfl⟩ h1 (c_X12_stands _ _ _ _ _) (by decide) (by decide) rfl (Nat.le_of_ble_eq_true rfl) (fun r5 _ => ?_)
    refine rhF.istore_n (pc := 20) (L' := [(3, rhI _), (2, rhI _), (0, rhR _), (1, rhI _)]) dX12_signed_20 (by decide) rfl ?_
    refine rhF.iload_n (pc := 21) dX12_signed_21 0 rfl ?_
    refine rhF.if_eq (pc := 22) 29 dX12_signed_22 (by decide) (fun h6 => ?_) (fun h6 => ?_)
    · refine rhF.sub [2, 3, 1, 0] rfl ?_
      exact (b_X12_signed_29) _ _ _ _ _
    · refine rhF.aload_n (pc := 25) dX12_signed_25 2 rfl ?_
      refine rhF.callV (pc := 26) (ci := 12) (embc := rhe1U _) [] dX12_signed_26 ml_X12_298 mv_X12_goOn ⟨_, rfl, rfl⟩ h1 (c_X12_goOn _ _ _ _) (by decide) (by decide) rfl (Nat.le_of_ble_eq_true rfl) (fun r19 _ => ?_)
      refine rhF.sub [2, 3, 1, 0] rfl ?_
      exact (b_X12_signed_29) _ _ _ _ _
theorem c_X12_signed (E : rhE) (Γ : rhG) (M : rhM) (v0 : Nat) (v1 : Int32) : ∀ a, f_X12_signed Γ M v0 v1 = some a → rhC E 6 yX12_signed cX12_signed 5 (some .int) [rhR v0, rhI v1] Γ M ((rhe1I Γ) a) := rhF.met (by decide +kernel) (Nat.le_of_ble_eq_true rfl) (b_X12_signed M v0 v1)
def f_X12_readBeside_63 (Γ : rhG) (M : rhM) (v0 : Nat) (v1 : Int32) (v2 : Int32) (v3 : Int32) : Option (rhM) :=
  rhck (Γ.2.2.1 v0 = 13) <|
  (f_X12_known Γ M v0 v2).bind fun r10 =>
  let x11 := r10.1
  (f_X12_isWord Γ r10.2 v0 ((512970880104 : Int64))).bind fun r12 =>
  (f_X12_must Γ r10.2 v0 r12).bind fun r13 =>
  (f_X12_signed Γ r13 v0 (99 : Int32)).bind fun r14 =>
  let x15 := r14.1
  (f_X12_isGood Γ r14.2 v0).bind fun r16 =>
  if r16 = 0 then
    (some r14.2)
  else
    rhck (Γ.2.2.1 (r14.2.2.2 v0 22) = 15) <|
    rhck (0 ≤ (v3 + x11).toInt ∧ (v3 + x11).toInt < (Γ.2.2.2 (r14.2.2.2 v0 22) : Nat)) <|
    let M20 := rhsi r14.2 (r14.2.2.2 v0 22) (v3 + x11 : Int32).toNatClampNeg x15
    rhck (0 ≤ (((64 * (M20.1 v0 35)) + (8 * x11)) + v1).toInt ∧ (((64 * (M20.1 v0 35)) + (8 * x11)) + v1).toInt < (Γ.2.2.2 (r14.2.2.2 v0 22) : Nat)) <|
    let M22 := rhsi M20 (r14.2.2.2 v0 22) (((64 * (M20.1 v0 35)) + (8 * x11)) + v1 : Int32).toNatClampNeg x15
    rhck (Γ.2.2.1 (r14.2.2.2 v0 26) = 17) <|
    rhck (0 ≤ (v3 + x11).toInt ∧ (v3 + x11).toInt < (Γ.2.2.2 (r14.2.2.2 v0 26) : Nat)) <|
    let M25 := rhsi M22 (r14.2.2.2 v0 26) (v3 + x11 : Int32).toNatClampNeg (vp_nar .boolean 1)
    rhck (0 ≤ (((64 * (M25.1 v0 35)) + (8 * x11)) + v1).toInt ∧ (((64 * (M25.1 v0 35)) + (8 * x11)) + v1).toInt < (Γ.2.2.2 (r14.2.2.2 v0 26) : Nat)) <|
    let M27 := rhsi M25 (r14.2.2.2 v0 26) (((64 * (M25.1 v0 35)) + (8 * x11)) + v1 : Int32).toNatClampNeg (vp_nar .boolean 1)
    rhck (Γ.2.2.1 (r14.2.2.2 v0 13) = 15) <|
    rhck (0 ≤ (M27.1 v0 35).toInt ∧ (M27.1 v0 35).toInt < (Γ.2.2.2 (r14.2.2.2 v0 13) : Nat)) <|
    let M30 := rhsi M27 (r14.2.2.2 v0 13) (M27.1 v0 35 : Int32).toNatClampNeg ((M27.1 (r14.2.2.2 v0 13) (M27.1 v0 35).toNatClampNeg) + 1)
    some M30
def f_X12_readBeside_54 (k63 : rhM → Nat → Int32 → Int32 → Int32 → Option (rhM)) (Γ : rhG) (M : rhM) (v0 : Nat) (v1 : Int32) (v2 : Int32) (v3 : Int32) : Option (rhM) :=
  rhck (Γ.2.2.1 v0 = 13) <|
  (f_X12_fails Γ M v0 (3 : Int32) (M.1 v0 6)).bind fun r34 =>
  k63 r34 v0 v1 v2 v3
def f_X12_readBeside (Γ : rhG) (M : rhM) (v0 : Nat) : Option (rhM) :=
  rhck (Γ.2.2.1 v0 = 13) <|
  (f_X12_houseHere Γ M v0).bind fun r2 =>
  (f_X12_known Γ M v0 r2).bind fun r3 =>
  let x4 := r3.1
  (f_X12_houseHere Γ r3.2 v0).bind fun r5 =>
  let x6 := (64 * (r3.2.1 v0 35)) + (8 * x4)
  (f_X12_isGood Γ r3.2 v0).bind fun r7 =>
  if r7 = 0 then
    (f_X12_readBeside_63 Γ r3.2 v0 x4 r5 x6)
  else
    if r5 < 0 then
      (f_X12_readBeside_63 Γ r3.2 v0 x4 r5 x6)
    else
      if x4 = r5 then
        (f_X12_readBeside_54 (f_X12_readBeside_63 Γ) Γ r3.2 v0 x4 r5 x6)
      else
        rhck (Γ.2.2.1 (r3.2.2.2 v0 26) = 17) <|
        rhck (0 ≤ (x6 + r5).toInt ∧ (x6 + r5).toInt < (Γ.2.2.2 (r3.2.2.2 v0 26) : Nat)) <|
        if (r3.2.1 (r3.2.2.2 v0 26) (x6 + r5).toNatClampNeg) = 0 then
          (f_X12_readBeside_63 Γ r3.2 v0 x4 r5 x6)
        else
          f_X12_readBeside_54 (f_X12_readBeside_63 Γ) Γ r3.2 v0 x4 r5 x6
set_option maxHeartbeats 4000000 in
set_option maxRecDepth 100000 in
theorem b_X12_readBeside_63 {E : rhE} {Γ : rhG} : ∀ (M : rhM) (v0 : Nat) (v1 : Int32) (v2 : Int32) (v3 : Int32), rhF E 7 5 yX12_readBeside cX12_readBeside none Γ (rhe1U Γ) (f_X12_readBeside_63 Γ M v0 v1 v2 v3) 63 [(0, rhR v0), (1, rhI v1), (2, rhI v2), (3, rhI v3)] [] Γ M := by
  intro M v0 v1 v2 v3
  rw [f_X12_readBeside_63]
  refine rhF.aload_n (pc := 63) dX12_readBeside_63 0 rfl ?_
  refine rhF.iload_n (pc := 64) dX12_readBeside_64 2 rfl ?_
  refine rhF.ck (fun h9 => ?_)
  refine rhF.callV (pc := 65) (ci := 12) (embc := rhe1I _) [rhI _] dX12_readBeside_65 ml_X12_379 mv_X12_known ⟨_, rfl, rfl⟩ h9 (c_X12_known _ _ _ _ _) (by decide) (by decide) rfl (Nat.le_of_ble_eq_true rfl) (fun r10 _ => ?_)
  refine rhF.istore_n (pc := 68) (L' := [(2, rhI _), (0, rhR _), (1, rhI _), (3, rhI _)]) dX12_readBeside_68 (by decide) rfl ?_
  refine rhF.aload_n (pc := 69) dX12_readBeside_69 1 rfl ?_
  refine rhF.aload_n (pc := 70) dX12_readBeside_70 1 rfl ?_
  refine rhF.ldc2 (pc := 71) dX12_readBeside_71 k_X12_232 ?_
  refine rhF.callV (pc := 74) (ci := 12) (embc := rhe0I _ _) [rhJ _] dX12_readBeside_74 ml_X12_304 mv_X12_isWord ⟨_, rfl, rfl⟩ h9 (c_X12_isWord _ _ _ _ _) (by decide) (by decide) rfl (Nat.le_of_ble_eq_true rfl) (fun r12 _ => ?_)
  refine rhF.callV (pc := 77) (ci := 12) (embc := rhe1U _) [rhI _] dX12_readBeside_77 ml_X12_307 mv_X12_must ⟨_, rfl, rfl⟩ h9 (c_X12_must _ _ _ _ _) (by decide) (by decide) rfl (Nat.le_of_ble_eq_true rfl) (fun r13 _ => ?_)
  refine rhF.aload_n (pc := 80) dX12_readBeside_80 1 rfl ?_
  refine rhF.bipush (pc := 81) (v := 99) dX12_readBeside_81 (by decide) ?_
  refine rhF.callV (pc := 83) (ci := 12) (embc := rhe1I _) [rhI _] dX12_readBeside_83 ml_X12_382 mv_X12_signed ⟨_, rfl, rfl⟩ h9 (c_X12_signed _ _ _ _ _) (by decide) (by decide) rfl (Nat.le_of_ble_eq_true rfl) (fun r14 _ => ?_)
  refine rhF.istore (pc := 86) (L' := [(4, rhI _), (2, rhI _), (0, rhR _), (1, rhI _), (3, rhI _)]) dX12_readBeside_86 (by decide) rfl ?_
  refine rhF.aload_n (pc := 88) dX12_readBeside_88 2 rfl ?_
  refine rhF.callV (pc := 89) (ci := 12) (embc := rhe0I _ _) [] dX12_readBeside_89 ml_X12_294 mv_X12_isGood ⟨_, rfl, rfl⟩ h9 (c_X12_isGood _ _ _ _) (by decide) (by decide) rfl (Nat.le_of_ble_eq_true rfl) (fun r16 _ => ?_)
  refine rhF.if_ne (pc := 92) 96 dX12_readBeside_92 (by decide) (fun h17 => ?_) (fun h17 => ?_)
  · exact rhF.vret (pc := 95) dX12_readBeside_95 rfl rfl
  · refine rhF.aload_n (pc := 96) dX12_readBeside_96 2 rfl ?_
    refine rhF.get (pc := 97) (rhR _) dX12_readBeside_97 fl_X12_54 h9 rfl ?_
    refine rhF.iload_n (pc := 100) dX12_readBeside_100 4 rfl ?_
    refine rhF.iload_n (pc := 101) dX12_readBeside_101 1 rfl ?_
    refine rhF.iadd (pc := 102) dX12_readBeside_102 ?_
    refine rhF.iload (pc := 103) dX12_readBeside_103 0 rfl ?_
    refine rhF.ck (fun h18 => ?_)
    refine rhF.ck (fun h19 => ?_)
    refine rhF.iast (pc := 105) dX12_readBeside_105 h18 h19 ?_
    refine rhF.aload_n (pc := 106) dX12_readBeside_106 2 rfl ?_
    refine rhF.get (pc := 107) (rhR _) dX12_readBeside_107 fl_X12_54 h9 rfl ?_
    refine rhF.bipush (pc := 110) (v := 64) dX12_readBeside_110 (by decide) ?_
    refine rhF.aload_n (pc := 112) dX12_readBeside_112 2 rfl ?_
    refine rhF.get (pc := 113) (rhI _) dX12_readBeside_113 fl_X12_318 h9 rfl ?_
    refine rhF.imul (pc := 116) dX12_readBeside_116 ?_
    refine rhF.bipush (pc := 117) (v := 8) dX12_readBeside_117 (by decide) ?_
    refine rhF.iload_n (pc := 119) dX12_readBeside_119 1 rfl ?_
    refine rhF.imul (pc := 120) dX12_readBeside_120 ?_
    refine rhF.iadd (pc := 121) dX12_readBeside_121 ?_
    refine rhF.iload_n (pc := 122) dX12_readBeside_122 3 rfl ?_
    refine rhF.iadd (pc := 123) dX12_readBeside_123 ?_
    refine rhF.iload (pc := 124) dX12_readBeside_124 0 rfl ?_
    refine rhF.ck (fun h21 => ?_)
    refine rhF.iast (pc := 126) dX12_readBeside_126 h18 h21 ?_
    refine rhF.aload_n (pc := 127) dX12_readBeside_127 2 rfl ?_
    refine rhF.get (pc := 128) (rhR _) dX12_readBeside_128 fl_X12_67 h9 rfl ?_
    refine rhF.iload_n (pc := 131) dX12_readBeside_131 4 rfl ?_
    refine rhF.iload_n (pc := 132) dX12_readBeside_132 1 rfl ?_
    refine rhF.iadd (pc := 133) dX12_readBeside_133 ?_
    refine rhF.iconst (pc := 134) (v := 1) dX12_readBeside_134 (by decide) ?_
    refine rhF.ck (fun h23 => ?_)
    refine rhF.ck (fun h24 => ?_)
    refine rhF.zast (pc := 135) dX12_readBeside_135 h23 h24 ?_
    refine rhF.aload_n (pc := 136) dX12_readBeside_136 2 rfl ?_
    refine rhF.get (pc := 137) (rhR _) dX12_readBeside_137 fl_X12_67 h9 rfl ?_
    refine rhF.bipush (pc := 140) (v := 64) dX12_readBeside_140 (by decide) ?_
    refine rhF.aload_n (pc := 142) dX12_readBeside_142 2 rfl ?_
    refine rhF.get (pc := 143) (rhI _) dX12_readBeside_143 fl_X12_318 h9 rfl ?_
    refine rhF.imul (pc := 146) dX12_readBeside_146 ?_
    refine rhF.bipush (pc := 147) (v := 8) dX12_readBeside_147 (by decide) ?_
    refine rhF.iload_n (pc := 149) dX12_readBeside_149 1 rfl ?_
    refine rhF.imul (pc := 150) dX12_readBeside_150 ?_
    refine rhF.iadd (pc := 151) dX12_readBeside_151 ?_
    refine rhF.iload_n (pc := 152) dX12_readBeside_152 3 rfl ?_
    refine rhF.iadd (pc := 153) dX12_readBeside_153 ?_
    refine rhF.iconst (pc := 154) (v := 1) dX12_readBeside_154 (by decide) ?_
    refine rhF.ck (fun h26 => ?_)
    refine rhF.zast (pc := 155) dX12_readBeside_155 h23 h26 ?_
    refine rhF.aload_n (pc := 156) dX12_readBeside_156 2 rfl ?_
    refine rhF.get (pc := 157) (rhR _) dX12_readBeside_157 fl_X12_27 h9 rfl ?_
    refine rhF.aload_n (pc := 160) dX12_readBeside_160 2 rfl ?_
    refine rhF.get (pc := 161) (rhI _) dX12_readBeside_161 fl_X12_318 h9 rfl ?_
    refine rhF.dup2ri (pc := 164) dX12_readBeside_164 ?_
    refine rhF.ck (fun h28 => ?_)
    refine rhF.ck (fun h29 => ?_)
    refine rhF.iald (pc := 165) dX12_readBeside_165 h28 h29 ?_
    refine rhF.iconst (pc := 166) (v := 1) dX12_readBeside_166 (by decide) ?_
    refine rhF.iadd (pc := 167) dX12_readBeside_167 ?_
    refine rhF.iast (pc := 168) dX12_readBeside_168 h28 h29 ?_
    exact rhF.vret (pc := 169) dX12_readBeside_169 rfl rfl
set_option maxHeartbeats 4000000 in
set_option maxRecDepth 100000 in
theorem b_X12_readBeside_54 {E : rhE} {Γ : rhG} {k63 : rhM → Nat → Int32 → Int32 → Int32 → Option (rhM)} (hk63 : ∀ (M : rhM) (v0 : Nat) (v1 : Int32) (v2 : Int32) (v3 : Int32), rhF E 7 5 yX12_readBeside cX12_readBeside none Γ (rhe1U Γ) (k63 M v0 v1 v2 v3) 63 [(0, rhR v0), (1, rhI v1), (2, rhI v2), (3, rhI v3)] [] Γ M) : ∀ (M : rhM) (v0 : Nat) (v1 : Int32) (v2 : Int32) (v3 : Int32), rhF E 7 5 yX12_readBeside cX12_readBeside none Γ (rhe1U Γ) (f_X12_readBeside_54 k63 Γ M v0 v1 v2 v3) 54 [(0, rhR v0), (1, rhI v1), (2, rhI v2), (3, rhI v3)] [] Γ M := by
  intro M v0 v1 v2 v3
  rw [f_X12_readBeside_54]
  refine rhF.aload_n (pc := 54) dX12_readBeside_54 0 rfl ?_
  refine rhF.iconst (pc := 55) (v := 3) dX12_readBeside_55 (by decide) ?_
  refine rhF.aload_n (pc := 56) dX12_readBeside_56 0 rfl ?_
  refine rhF.ck (fun h33 => ?_)
  refine rhF.get (pc := 57) (rhI _) dX12_readBeside_57 fl_X12_259 h33 rfl ?_
  refine rhF.callV (pc := 60) (ci := 12) (embc := rhe1U _) [rhI _, rhI _] dX12_readBeside_60 ml_X12_290 mv_X12_fails ⟨_, rfl, rfl⟩ h33 (c_X12_fails _ _ _ _ _ _) (by decide) (by decide) rfl (Nat.le_of_ble_eq_true rfl) (fun r34 _ => ?_)
  exact hk63 _ _ _ _ _
set_option maxHeartbeats 4000000 in
set_option maxRecDepth 100000 in
theorem b_X12_readBeside {E : rhE} {Γ : rhG} : ∀ (M : rhM) (v0 : Nat), rhF E 7 5 yX12_readBeside cX12_readBeside none Γ (rhe1U Γ) (f_X12_readBeside Γ M v0) 0 [(0, rhR v0)] [] Γ M := by
  intro M v0
  rw [f_X12_readBeside]
  refine rhF.aload_n (pc := 0) dX12_readBeside_0 0 rfl ?_
  refine rhF.aload_n (pc := 1) dX12_readBeside_1 0 rfl ?_
  refine rhF.ck (fun h1 => ?_)
  refine rhF.callV (pc := 2) (ci := 12) (embc := rhe0I _ _) [] dX12_readBeside_2 ml_X12_376 mv_X12_houseHere ⟨_, rfl, rfl⟩ h1 (c_X12_houseHere _ _ _ _) (by decide) (by decide) rfl (Nat.le_of_ble_eq_true rfl) (fun r2 _ => ?_)
  refine rhF.callV (pc := 5) (ci := 12) (embc := rhe1I _) [rhI _] dX12_readBeside_5 ml_X12_379 mv_X12_known ⟨_, rfl, rfl⟩ h1 (c_X12_known _ _ _ _ _) (by decide) (by decide) rfl (Nat.le_of_ble_eq_true rfl) (fun r3 _ => ?_)
  refine rhF.istore_n (pc := 8) (L' := [(1, rhI _), (0, rhR _)]) dX12_readBeside_8 (by decide) rfl ?_
  refine rhF.aload_n (pc := 9) dX12_readBeside_9 1 rfl ?_
  refine rhF.callV (pc := 10) (ci := 12) (embc := rhe0I _ _) [] dX12_readBeside_10 ml_X12_376 mv_X12_houseHere ⟨_, rfl, rfl⟩ h1 (c_X12_houseHere _ _ _ _) (by decide) (by decide) rfl (Nat.le_of_ble_eq_true rfl) (fun r5 _ => ?_)
  refine rhF.istore_n (pc := 13) (L' := [(2, rhI _), (1, rhI _), (0, rhR _)]) dX12_readBeside_13 (by decide) rfl ?_
  refine rhF.bipush (pc := 14) (v := 64) dX12_readBeside_14 (by decide) ?_
  refine rhF.aload_n (pc := 16) dX12_readBeside_16 2 rfl ?_
  refine rhF.get (pc := 17) (rhI _) dX12_readBeside_17 fl_X12_318 h1 rfl ?_
  refine rhF.imul (pc := 20) dX12_readBeside_20 ?_
  refine rhF.bipush (pc := 21) (v := 8) dX12_readBeside_21 (by decide) ?_
  refine rhF.iload_n (pc := 23) dX12_readBeside_23 1 rfl ?_
  refine rhF.imul (pc := 24) dX12_readBeside_24 ?_
  refine rhF.iadd (pc := 25) dX12_readBeside_25 ?_
  refine rhF.istore_n (pc := 26) (L' := [(3, rhI _), (2, rhI _), (1, rhI _), (0, rhR _)]) dX12_readBeside_26 (by decide) rfl ?_
  refine rhF.aload_n (pc := 27) dX12_readBeside_27 3 rfl ?_
  refine rhF.callV (pc := 28) (ci := 12) (embc := rhe0I _ _) [] dX12_readBeside_28 ml_X12_294 mv_X12_isGood ⟨_, rfl, rfl⟩ h1 (c_X12_isGood _ _ _ _) (by decide) (by decide) rfl (Nat.le_of_ble_eq_true rfl) (fun r7 _ => ?_)
  refine rhF.if_eq (pc := 31) 63 dX12_readBeside_31 (by decide) (fun h8 => ?_) (fun h8 => ?_)
  · refine rhF.sub [3, 2, 1, 0] rfl ?_
    exact (b_X12_readBeside_63) _ _ _ _ _
  · refine rhF.iload_n (pc := 34) dX12_readBeside_34 1 rfl ?_
    refine rhF.if_lt (pc := 35) 63 dX12_readBeside_35 (by decide) (fun h31 => ?_) (fun h31 => ?_)
    · refine rhF.sub [3, 2, 1, 0] rfl ?_
      exact (b_X12_readBeside_63) _ _ _ _ _
    · refine rhF.iload_n (pc := 38) dX12_readBeside_38 2 rfl ?_
      refine rhF.iload_n (pc := 39) dX12_readBeside_39 1 rfl ?_
      refine rhF.icmp_eq (pc := 40) 54 dX12_readBeside_40 (by decide) (fun h32 => ?_) (fun h32 => ?_)
      · refine rhF.sub [3, 2, 1, 0] rfl ?_
        exact (b_X12_readBeside_54 (b_X12_readBeside_63)) _ _ _ _ _
      · refine rhF.aload_n (pc := 43) dX12_readBeside_43 3 rfl ?_
        refine rhF.get (pc := 44) (rhR _) dX12_readBeside_44 fl_X12_67 h1 rfl ?_
        refine rhF.iload_n (pc := 47) dX12_readBeside_47 0 rfl ?_
        refine rhF.iload_n (pc := 48) dX12_readBeside_48 1 rfl ?_
        refine rhF.iadd (pc := 49) dX12_readBeside_49 ?_
        refine rhF.ck (fun h35 => ?_)
        refine rhF.ck (fun h36 => ?_)
        refine rhF.zald (pc := 50) dX12_readBeside_50 h35 h36 ?_
        refine rhF.if_eq (pc := 51) 63 dX12_readBeside_51 (by decide) (fun h37 => ?_) (fun h37 => ?_)
        · refine rhF.sub [3, 2, 1, 0] rfl ?_
          exact (b_X12_readBeside_63) _ _ _ _ _
        · refine rhF.sub [3, 2, 1, 0] rfl ?_
          exact (b_X12_readBeside_54 (b_X12_readBeside_63)) _ _ _ _ _
theorem c_X12_readBeside (E : rhE) (Γ : rhG) (M : rhM) (v0 : Nat) : ∀ a, f_X12_readBeside Γ M v0 = some a → rhC E 7 yX12_readBeside cX12_readBeside 5 none [rhR v0] Γ M ((rhe1U Γ) a) := rhF.met (by decide +kernel) (Nat.le_of_ble_eq_true rfl) (b_X12_readBeside M v0)
def f_X12_readHouse_152 (k121 : rhM → Nat → Int32 → Int64 → Int32 → Int32 → Int32 → Option (rhM)) (Γ : rhG) (M : rhM) (v0 : Nat) (v1 : Int32) (v2 : Int64) (v4 : Int32) (v6 : Int32) (s0 : Int32) (s1 : Int32) : Option (rhM) :=
  let x40 := s0 + s1
  let x41 : Int32 := v6 + 1
  k121 M v0 v1 v2 v4 x40 x41
def f_X12_readHouse_121 (k161 : rhM → Nat → Int32 → Int64 → Int32 → Int32 → Option (rhM)) (Γ : rhG) : Nat → rhM → Nat → Int32 → Int64 → Int32 → Int32 → Int32 → Option (rhM)
  | 0, _, _, _, _, _, _, _ => none
  | n + 1, M, v0, v1, v2, v4, v5, v6 =>
    if v6 < v1 then
      (rhck (Γ.2.2.1 v0 = 13) <|
      rhck (Γ.2.2.1 (M.2.2 v0 21) = 15) <|
      rhck (0 ≤ (v6).toInt ∧ (v6).toInt < (Γ.2.2.2 (M.2.2 v0 21) : Nat)) <|
      if (M.1 (M.2.2 v0 21) v6.toNatClampNeg) = v4 then
        (rhck (Γ.2.2.1 (M.2.2 v0 19) = 15) <|
        rhck (0 ≤ (v6).toInt ∧ (v6).toInt < (Γ.2.2.2 (M.2.2 v0 19) : Nat)) <|
        f_X12_readHouse_152 (f_X12_readHouse_121 k161 Γ n) Γ M v0 v1 v2 v4 v6 v5 (M.1 (M.2.2 v0 19) v6.toNatClampNeg))
      else
        f_X12_readHouse_152 (f_X12_readHouse_121 k161 Γ n) Γ M v0 v1 v2 v4 v6 v5 0)
    else
      k161 M v0 v1 v2 v4 v5
def f_X12_readHouse_206 (Γ : rhG) (M : rhM) (v0 : Nat) (v1 : Int32) (v2 : Int64) : Option (rhM) :=
  rhck (Γ.2.2.1 v0 = 13) <|
  rhck (Γ.2.2.1 (M.2.2 v0 28) = 16) <|
  rhck (0 ≤ (v1).toInt ∧ (v1).toInt < (Γ.2.2.2 (M.2.2 v0 28) : Nat)) <|
  let M49 := rhsl M (M.2.2 v0 28) (v1 : Int32).toNatClampNeg v2
  rhck (Γ.2.2.1 (M.2.2 v0 12) = 15) <|
  rhck (0 ≤ (M.1 v0 35).toInt ∧ (M.1 v0 35).toInt < (Γ.2.2.2 (M.2.2 v0 12) : Nat)) <|
  let M52 := rhsi M49 (M.2.2 v0 12) (M.1 v0 35 : Int32).toNatClampNeg ((M.1 (M.2.2 v0 12) (M.1 v0 35).toNatClampNeg) + 1)
  some M52
def f_X12_readHouse_161 (Γ : rhG) (M : rhM) (v0 : Nat) (v1 : Int32) (v2 : Int64) (v4 : Int32) (v5 : Int32) : Option (rhM) :=
  rhck (Γ.2.2.1 v0 = 13) <|
  (f_X12_stands Γ M v0 (59 : Int32)).bind fun r43 =>
  if r43 = 0 then
    ((f_X12_misplaced Γ M v0).bind fun r45 =>
    f_X12_readHouse_206 Γ r45 v0 v1 v2)
  else
    rhck (Γ.2.2.1 (M.2.2 v0 18) = 15) <|
    rhck (0 ≤ ((5 * (M.1 v0 35)) + v4).toInt ∧ ((5 * (M.1 v0 35)) + v4).toInt < (Γ.2.2.2 (M.2.2 v0 18) : Nat)) <|
    if (M.1 (M.2.2 v0 18) ((5 * (M.1 v0 35)) + v4).toNatClampNeg) < v5 then
      ((f_X12_fails Γ M v0 (6 : Int32) (M.1 v0 6)).bind fun r56 =>
      f_X12_readHouse_206 Γ r56 v0 v1 v2)
    else
      f_X12_readHouse_206 Γ M v0 v1 v2
def f_X12_readHouse_31 (Γ : rhG) (M : rhM) (v0 : Nat) (v1 : Int32) (s0 : Nat) (s1 : Int32) : Option (rhM) :=
  rhck (Γ.2.2.1 s0 = 13) <|
  (f_X12_fresh Γ M s0 s1).bind fun r8 =>
  let x9 := r8.1
  rhck (Γ.2.2.1 v0 = 13) <|
  (f_X12_after Γ r8.2 v0 ((119182899770472 : Int64)) (1 : Int32) (9 : Int32)).bind fun r11 =>
  rhck (Γ.2.2.1 (r8.2.2.2 v0 19) = 15) <|
  rhck (0 ≤ (v1).toInt ∧ (v1).toInt < (Γ.2.2.2 (r8.2.2.2 v0 19) : Nat)) <|
  let M14 := rhsi r11.2 (r8.2.2.2 v0 19) (v1 : Int32).toNatClampNeg r11.1
  (f_X12_after Γ M14 v0 ((131277443786868 : Int64)) (1 : Int32) (99 : Int32)).bind fun r15 =>
  rhck (Γ.2.2.1 (r11.2.2.2 v0 20) = 15) <|
  rhck (0 ≤ (v1).toInt ∧ (v1).toInt < (Γ.2.2.2 (r11.2.2.2 v0 20) : Nat)) <|
  let M18 := rhsi r15.2 (r11.2.2.2 v0 20) (v1 : Int32).toNatClampNeg r15.1
  (f_X12_isWord Γ M18 v0 ((28526 : Int64))).bind fun r19 =>
  (f_X12_must Γ M18 v0 r19).bind fun r20 =>
  (f_X12_railHere Γ r20 v0).bind fun r21 =>
  (f_X12_known Γ r20 v0 r21).bind fun r22 =>
  let x23 := r22.1
  rhck (Γ.2.2.1 (r22.2.2.2 v0 21) = 15) <|
  rhck (0 ≤ (v1).toInt ∧ (v1).toInt < (Γ.2.2.2 (r22.2.2.2 v0 21) : Nat)) <|
  let M26 := rhsi r22.2 (r22.2.2.2 v0 21) (v1 : Int32).toNatClampNeg x23
  (f_X12_isGood Γ M26 v0).bind fun r27 =>
  if r27 = 0 then
    (some M26)
  else
    rhck (Γ.2.2.1 (r22.2.2.2 v0 19) = 15) <|
    rhck (0 ≤ (v1).toInt ∧ (v1).toInt < (Γ.2.2.2 (r22.2.2.2 v0 19) : Nat)) <|
    let x31 := M26.1 (r22.2.2.2 v0 19) v1.toNatClampNeg
    let x32 := 8 * (M26.1 v0 35)
    f_X12_readHouse_121 (f_X12_readHouse_161 Γ) Γ rhFU M26 v0 v1 x9 x23 x31 x32
def f_X12_readHouse (Γ : rhG) (M : rhM) (v0 : Nat) : Option (rhM) :=
  rhck (Γ.2.2.1 v0 = 13) <|
  rhck (Γ.2.2.1 (M.2.2 v0 12) = 15) <|
  rhck (0 ≤ (M.1 v0 35).toInt ∧ (M.1 v0 35).toInt < (Γ.2.2.2 (M.2.2 v0 12) : Nat)) <|
  let x4 := (8 * (M.1 v0 35)) + (M.1 (M.2.2 v0 12) (M.1 v0 35).toNatClampNeg)
  (f_X12_houseHere Γ M v0).bind fun r5 =>
  if r5 < 0 then
    (f_X12_readHouse_31 Γ M v0 x4 v0 0)
  else
    f_X12_readHouse_31 Γ M v0 x4 v0 1
set_option maxHeartbeats 4000000 in
set_option maxRecDepth 100000 in
theorem b_X12_readHouse_152 {E : rhE} {Γ : rhG} {k121 : rhM → Nat → Int32 → Int64 → Int32 → Int32 → Int32 → Option (rhM)} (hk121 : ∀ (M : rhM) (v0 : Nat) (v1 : Int32) (v2 : Int64) (v4 : Int32) (v5 : Int32) (v6 : Int32), rhF E 8 7 yX12_readHouse cX12_readHouse none Γ (rhe1U Γ) (k121 M v0 v1 v2 v4 v5 v6) 121 [(0, rhR v0), (1, rhI v1), (2, rhJ v2), (4, rhI v4), (5, rhI v5), (6, rhI v6)] [] Γ M) : ∀ (M : rhM) (v0 : Nat) (v1 : Int32) (v2 : Int64) (v4 : Int32) (v6 : Int32) (s0 : Int32) (s1 : Int32), rhF E 8 7 yX12_readHouse cX12_readHouse none Γ (rhe1U Γ) (f_X12_readHouse_152 k121 Γ M v0 v1 v2 v4 v6 s0 s1) 152 [(0, rhR v0), (1, rhI v1), (2, rhJ v2), (4, rhI v4), (6, rhI v6)] [rhI s1, rhI s0] Γ M := by
  intro M v0 v1 v2 v4 v6 s0 s1
  rw [f_X12_readHouse_152]
  refine rhF.iadd (pc := 152) dX12_readHouse_152 ?_
  refine rhF.istore (pc := 153) (L' := [(5, rhI _), (0, rhR _), (1, rhI _), (2, rhJ _), (4, rhI _), (6, rhI _)]) dX12_readHouse_153 (by decide) rfl ?_
  refine rhF.iinc (pc := 155) (L' := [(6, rhI _), (5, rhI _), (0, rhR _), (1, rhI _), (2, rhJ _), (4, rhI _)]) dX12_readHouse_155 5 rfl rfl (by decide) rfl ?_
  refine rhF.goto (pc := 158) 121 dX12_readHouse_158 (by decide) ?_
  refine rhF.sub [2, 3, 4, 5, 1, 0] rfl ?_
  exact hk121 _ _ _ _ _ _ _
set_option maxHeartbeats 4000000 in
set_option maxRecDepth 100000 in
theorem b_X12_readHouse_121 {E : rhE} {Γ : rhG} {k161 : rhM → Nat → Int32 → Int64 → Int32 → Int32 → Option (rhM)} (hk161 : ∀ (M : rhM) (v0 : Nat) (v1 : Int32) (v2 : Int64) (v4 : Int32) (v5 : Int32), rhF E 8 7 yX12_readHouse cX12_readHouse none Γ (rhe1U Γ) (k161 M v0 v1 v2 v4 v5) 161 [(0, rhR v0), (1, rhI v1), (2, rhJ v2), (4, rhI v4), (5, rhI v5)] [] Γ M) : ∀ (n : Nat) (M : rhM) (v0 : Nat) (v1 : Int32) (v2 : Int64) (v4 : Int32) (v5 : Int32) (v6 : Int32), rhF E 8 7 yX12_readHouse cX12_readHouse none Γ (rhe1U Γ) (f_X12_readHouse_121 k161 Γ n M v0 v1 v2 v4 v5 v6) 121 [(0, rhR v0), (1, rhI v1), (2, rhJ v2), (4, rhI v4), (5, rhI v5), (6, rhI v6)] [] Γ M := by
  intro n
  induction n with
  | zero => intro M v0 v1 v2 v4 v5 v6; rw [f_X12_readHouse_121]; exact rhF.nope
  | succ n ih =>
    intro M v0 v1 v2 v4 v5 v6
    rw [f_X12_readHouse_121]
    refine rhF.iload (pc := 121) dX12_readHouse_121 5 rfl ?_
    refine rhF.iload_n (pc := 123) dX12_readHouse_123 1 rfl ?_
    refine rhF.icmp_ge (pc := 124) 161 dX12_readHouse_124 (by decide) (fun h33 => ?_) (fun h33 => ?_)
    · refine rhF.iload (pc := 127) dX12_readHouse_127 4 rfl ?_
      refine rhF.aload_n (pc := 129) dX12_readHouse_129 0 rfl ?_
      refine rhF.ck (fun h34 => ?_)
      refine rhF.get (pc := 130) (rhR _) dX12_readHouse_130 fl_X12_51 h34 rfl ?_
      refine rhF.iload (pc := 133) dX12_readHouse_133 5 rfl ?_
      refine rhF.ck (fun h35 => ?_)
      refine rhF.ck (fun h36 => ?_)
      refine rhF.iald (pc := 135) dX12_readHouse_135 h35 h36 ?_
      refine rhF.iload (pc := 136) dX12_readHouse_136 3 rfl ?_
      refine rhF.icmp_ne (pc := 138) 151 dX12_readHouse_138 (by decide) (fun h37 => ?_) (fun h37 => ?_)
      · refine rhF.aload_n (pc := 141) dX12_readHouse_141 0 rfl ?_
        refine rhF.get (pc := 142) (rhR _) dX12_readHouse_142 fl_X12_45 h34 rfl ?_
        refine rhF.iload (pc := 145) dX12_readHouse_145 5 rfl ?_
        refine rhF.ck (fun h38 => ?_)
        refine rhF.ck (fun h39 => ?_)
        refine rhF.iald (pc := 147) dX12_readHouse_147 h38 h39 ?_
        refine rhF.goto (pc := 148) 152 dX12_readHouse_148 (by decide) ?_
        refine rhF.sub [0, 1, 2, 3, 5] rfl ?_
        exact (b_X12_readHouse_152 ih) _ _ _ _ _ _ _ _
      · refine rhF.iconst (pc := 151) (v := 0) dX12_readHouse_151 (by decide) ?_
        refine rhF.sub [0, 1, 2, 3, 5] rfl ?_
        exact (b_X12_readHouse_152 ih) _ _ _ _ _ _ _ _
    · refine rhF.sub [0, 1, 2, 3, 4] rfl ?_
      exact hk161 _ _ _ _ _ _
set_option maxHeartbeats 4000000 in
set_option maxRecDepth 100000 in
theorem b_X12_readHouse_206 {E : rhE} {Γ : rhG} : ∀ (M : rhM) (v0 : Nat) (v1 : Int32) (v2 : Int64), rhF E 8 7 yX12_readHouse cX12_readHouse none Γ (rhe1U Γ) (f_X12_readHouse_206 Γ M v0 v1 v2) 206 [(0, rhR v0), (1, rhI v1), (2, rhJ v2)] [] Γ M := by
  intro M v0 v1 v2
  rw [f_X12_readHouse_206]
  refine rhF.aload_n (pc := 206) dX12_readHouse_206 0 rfl ?_
  refine rhF.ck (fun h46 => ?_)
  refine rhF.get (pc := 207) (rhR _) dX12_readHouse_207 fl_X12_74 h46 rfl ?_
  refine rhF.iload_n (pc := 210) dX12_readHouse_210 1 rfl ?_
  refine rhF.lload_n (pc := 211) dX12_readHouse_211 2 rfl ?_
  refine rhF.ck (fun h47 => ?_)
  refine rhF.ck (fun h48 => ?_)
  refine rhF.last (pc := 212) dX12_readHouse_212 h47 h48 ?_
  refine rhF.aload_n (pc := 213) dX12_readHouse_213 0 rfl ?_
  refine rhF.get (pc := 214) (rhR _) dX12_readHouse_214 fl_X12_24 h46 rfl ?_
  refine rhF.aload_n (pc := 217) dX12_readHouse_217 0 rfl ?_
  refine rhF.get (pc := 218) (rhI _) dX12_readHouse_218 fl_X12_318 h46 rfl ?_
  refine rhF.dup2ri (pc := 221) dX12_readHouse_221 ?_
  refine rhF.ck (fun h50 => ?_)
  refine rhF.ck (fun h51 => ?_)
  refine rhF.iald (pc := 222) dX12_readHouse_222 h50 h51 ?_
  refine rhF.iconst (pc := 223) (v := 1) dX12_readHouse_223 (by decide) ?_
  refine rhF.iadd (pc := 224) dX12_readHouse_224 ?_
  refine rhF.iast (pc := 225) dX12_readHouse_225 h50 h51 ?_
  exact rhF.vret (pc := 226) dX12_readHouse_226 rfl rfl
set_option maxHeartbeats 4000000 in
set_option maxRecDepth 100000 in
theorem b_X12_readHouse_161 {E : rhE} {Γ : rhG} : ∀ (M : rhM) (v0 : Nat) (v1 : Int32) (v2 : Int64) (v4 : Int32) (v5 : Int32), rhF E 8 7 yX12_readHouse cX12_readHouse none Γ (rhe1U Γ) (f_X12_readHouse_161 Γ M v0 v1 v2 v4 v5) 161 [(0, rhR v0), (1, rhI v1), (2, rhJ v2), (4, rhI v4), (5, rhI v5)] [] Γ M := by
  intro M v0 v1 v2 v4 v5
  rw [f_X12_readHouse_161]
  refine rhF.aload_n (pc := 161) dX12_readHouse_161 0 rfl ?_
  refine rhF.bipush (pc := 162) (v := 59) dX12_readHouse_162 (by decide) ?_
  refine rhF.ck (fun h42 => ?_)
  refine rhF.callV (pc := 164) (ci := 12) (embc := rhe0I _ _) [rhI _] dX12_readHouse_164 ml_X12_315 mv_X12_stands ⟨_, rfl, rfl⟩ h42 (c_X12_stands _ _ _ _ _) (by decide) (by decide) rfl (Nat.le_of_ble_eq_true rfl) (fun r43 _ => ?_)
  refine rhF.if_ne (pc := 167) 177 dX12_readHouse_167 (by decide) (fun h44 => ?_) (fun h44 => ?_)
  · refine rhF.aload_n (pc := 170) dX12_readHouse_170 0 rfl ?_
    refine rhF.callV (pc := 171) (ci := 12) (embc := rhe1U _) [] dX12_readHouse_171 ml_X12_301 mv_X12_misplaced ⟨_, rfl, rfl⟩ h42 (c_X12_misplaced _ _ _ _) (by decide) (by decide) rfl (Nat.le_of_ble_eq_true rfl) (fun r45 _ => ?_)
    refine rhF.goto (pc := 174) 206 dX12_readHouse_174 (by decide) ?_
    refine rhF.sub [0, 1, 2] rfl ?_
    exact (b_X12_readHouse_206) _ _ _ _
  · refine rhF.iload (pc := 177) dX12_readHouse_177 4 rfl ?_
    refine rhF.aload_n (pc := 179) dX12_readHouse_179 0 rfl ?_
    refine rhF.get (pc := 180) (rhR _) dX12_readHouse_180 fl_X12_42 h42 rfl ?_
    refine rhF.iconst (pc := 183) (v := 5) dX12_readHouse_183 (by decide) ?_
    refine rhF.aload_n (pc := 184) dX12_readHouse_184 0 rfl ?_
    refine rhF.get (pc := 185) (rhI _) dX12_readHouse_185 fl_X12_318 h42 rfl ?_
    refine rhF.imul (pc := 188) dX12_readHouse_188 ?_
    refine rhF.iload (pc := 189) dX12_readHouse_189 3 rfl ?_
    refine rhF.iadd (pc := 191) dX12_readHouse_191 ?_
    refine rhF.ck (fun h53 => ?_)
    refine rhF.ck (fun h54 => ?_)
    refine rhF.iald (pc := 192) dX12_readHouse_192 h53 h54 ?_
    refine rhF.icmp_le (pc := 193) 206 dX12_readHouse_193 (by decide) (fun h55 => ?_) (fun h55 => ?_)
    · refine rhF.aload_n (pc := 196) dX12_readHouse_196 0 rfl ?_
      refine rhF.bipush (pc := 197) (v := 6) dX12_readHouse_197 (by decide) ?_
      refine rhF.aload_n (pc := 199) dX12_readHouse_199 0 rfl ?_
      refine rhF.get (pc := 200) (rhI _) dX12_readHouse_200 fl_X12_259 h42 rfl ?_
      refine rhF.callV (pc := 203) (ci := 12) (embc := rhe1U _) [rhI _, rhI _] dX12_readHouse_203 ml_X12_290 mv_X12_fails ⟨_, rfl, rfl⟩ h42 (c_X12_fails _ _ _ _ _ _) (by decide) (by decide) rfl (Nat.le_of_ble_eq_true rfl) (fun r56 _ => ?_)
      refine rhF.sub [0, 1, 2] rfl ?_
      exact (b_X12_readHouse_206) _ _ _ _
    · refine rhF.sub [0, 1, 2] rfl ?_
      exact (b_X12_readHouse_206) _ _ _ _
set_option maxHeartbeats 4000000 in
set_option maxRecDepth 100000 in
theorem b_X12_readHouse_31 {E : rhE} {Γ : rhG} : ∀ (M : rhM) (v0 : Nat) (v1 : Int32) (s0 : Nat) (s1 : Int32), rhF E 8 7 yX12_readHouse cX12_readHouse none Γ (rhe1U Γ) (f_X12_readHouse_31 Γ M v0 v1 s0 s1) 31 [(0, rhR v0), (1, rhI v1)] [rhI s1, rhR s0] Γ M := by
  intro M v0 v1 s0 s1
  rw [f_X12_readHouse_31]
  refine rhF.ck (fun h7 => ?_)
  refine rhF.callV (pc := 31) (ci := 12) (embc := rhe1J _) [rhI _] dX12_readHouse_31 ml_X12_368 mv_X12_fresh ⟨_, rfl, rfl⟩ h7 (c_X12_fresh _ _ _ _ _) (by decide) (by decide) rfl (Nat.le_of_ble_eq_true rfl) (fun r8 _ => ?_)
  refine rhF.lstore_n (pc := 34) (L' := [(2, rhJ _), (0, rhR _), (1, rhI _)]) dX12_readHouse_34 (by decide) rfl ?_
  refine rhF.aload_n (pc := 35) dX12_readHouse_35 1 rfl ?_
  refine rhF.ck (fun h10 => ?_)
  refine rhF.get (pc := 36) (rhR _) dX12_readHouse_36 fl_X12_45 h10 rfl ?_
  refine rhF.iload_n (pc := 39) dX12_readHouse_39 2 rfl ?_
  refine rhF.aload_n (pc := 40) dX12_readHouse_40 1 rfl ?_
  refine rhF.ldc2 (pc := 41) dX12_readHouse_41 k_X12_222 ?_
  refine rhF.iconst (pc := 44) (v := 1) dX12_readHouse_44 (by decide) ?_
  refine rhF.bipush (pc := 45) (v := 9) dX12_readHouse_45 (by decide) ?_
  refine rhF.callV (pc := 47) (ci := 12) (embc := rhe1I _) [rhJ _, rhI _, rhI _] dX12_readHouse_47 ml_X12_372 mv_X12_after ⟨_, rfl, rfl⟩ h10 (c_X12_after _ _ _ _ _ _ _) (by decide) (by decide) rfl (Nat.le_of_ble_eq_true rfl) (fun r11 _ => ?_)
  refine rhF.ck (fun h12 => ?_)
  refine rhF.ck (fun h13 => ?_)
  refine rhF.iast (pc := 50) dX12_readHouse_50 h12 h13 ?_
  refine rhF.aload_n (pc := 51) dX12_readHouse_51 1 rfl ?_
  refine rhF.get (pc := 52) (rhR _) dX12_readHouse_52 fl_X12_48 h10 rfl ?_
  refine rhF.iload_n (pc := 55) dX12_readHouse_55 2 rfl ?_
  refine rhF.aload_n (pc := 56) dX12_readHouse_56 1 rfl ?_
  refine rhF.ldc2 (pc := 57) dX12_readHouse_57 k_X12_226 ?_
  refine rhF.iconst (pc := 60) (v := 1) dX12_readHouse_60 (by decide) ?_
  refine rhF.bipush (pc := 61) (v := 99) dX12_readHouse_61 (by decide) ?_
  refine rhF.callV (pc := 63) (ci := 12) (embc := rhe1I _) [rhJ _, rhI _, rhI _] dX12_readHouse_63 ml_X12_372 mv_X12_after ⟨_, rfl, rfl⟩ h10 (c_X12_after _ _ _ _ _ _ _) (by decide) (by decide) rfl (Nat.le_of_ble_eq_true rfl) (fun r15 _ => ?_)
  refine rhF.ck (fun h16 => ?_)
  refine rhF.ck (fun h17 => ?_)
  refine rhF.iast (pc := 66) dX12_readHouse_66 h16 h17 ?_
  refine rhF.aload_n (pc := 67) dX12_readHouse_67 1 rfl ?_
  refine rhF.aload_n (pc := 68) dX12_readHouse_68 1 rfl ?_
  refine rhF.ldc2 (pc := 69) dX12_readHouse_69 k_X12_228 ?_
  refine rhF.callV (pc := 72) (ci := 12) (embc := rhe0I _ _) [rhJ _] dX12_readHouse_72 ml_X12_304 mv_X12_isWord ⟨_, rfl, rfl⟩ h10 (c_X12_isWord _ _ _ _ _) (by decide) (by decide) rfl (Nat.le_of_ble_eq_true rfl) (fun r19 _ => ?_)
  refine rhF.callV (pc := 75) (ci := 12) (embc := rhe1U _) [rhI _] dX12_readHouse_75 ml_X12_307 mv_X12_must ⟨_, rfl, rfl⟩ h10 (c_X12_must _ _ _ _ _) (by decide) (by decide) rfl (Nat.le_of_ble_eq_true rfl) (fun r20 _ => ?_)
  refine rhF.aload_n (pc := 78) dX12_readHouse_78 1 rfl ?_
  refine rhF.aload_n (pc := 79) dX12_readHouse_79 1 rfl ?_
  refine rhF.callV (pc := 80) (ci := 12) (embc := rhe0I _ _) [] dX12_readHouse_80 ml_X12_364 mv_X12_railHere ⟨_, rfl, rfl⟩ h10 (c_X12_railHere _ _ _ _) (by decide) (by decide) rfl (Nat.le_of_ble_eq_true rfl) (fun r21 _ => ?_)
  refine rhF.callV (pc := 83) (ci := 12) (embc := rhe1I _) [rhI _] dX12_readHouse_83 ml_X12_379 mv_X12_known ⟨_, rfl, rfl⟩ h10 (c_X12_known _ _ _ _ _) (by decide) (by decide) rfl (Nat.le_of_ble_eq_true rfl) (fun r22 _ => ?_)
  refine rhF.istore (pc := 86) (L' := [(4, rhI _), (2, rhJ _), (0, rhR _), (1, rhI _)]) dX12_readHouse_86 (by decide) rfl ?_
  refine rhF.aload_n (pc := 88) dX12_readHouse_88 2 rfl ?_
  refine rhF.get (pc := 89) (rhR _) dX12_readHouse_89 fl_X12_51 h10 rfl ?_
  refine rhF.iload_n (pc := 92) dX12_readHouse_92 3 rfl ?_
  refine rhF.iload (pc := 93) dX12_readHouse_93 0 rfl ?_
  refine rhF.ck (fun h24 => ?_)
  refine rhF.ck (fun h25 => ?_)
  refine rhF.iast (pc := 95) dX12_readHouse_95 h24 h25 ?_
  refine rhF.aload_n (pc := 96) dX12_readHouse_96 2 rfl ?_
  refine rhF.callV (pc := 97) (ci := 12) (embc := rhe0I _ _) [] dX12_readHouse_97 ml_X12_294 mv_X12_isGood ⟨_, rfl, rfl⟩ h10 (c_X12_isGood _ _ _ _) (by decide) (by decide) rfl (Nat.le_of_ble_eq_true rfl) (fun r27 _ => ?_)
  refine rhF.if_ne (pc := 100) 104 dX12_readHouse_100 (by decide) (fun h28 => ?_) (fun h28 => ?_)
  · exact rhF.vret (pc := 103) dX12_readHouse_103 rfl rfl
  · refine rhF.aload_n (pc := 104) dX12_readHouse_104 2 rfl ?_
    refine rhF.get (pc := 105) (rhR _) dX12_readHouse_105 fl_X12_45 h10 rfl ?_
    refine rhF.iload_n (pc := 108) dX12_readHouse_108 3 rfl ?_
    refine rhF.ck (fun h29 => ?_)
    refine rhF.ck (fun h30 => ?_)
    refine rhF.iald (pc := 109) dX12_readHouse_109 h29 h30 ?_
    refine rhF.istore (pc := 110) (L' := [(5, rhI _), (4, rhI _), (2, rhJ _), (0, rhR _), (1, rhI _)]) dX12_readHouse_110 (by decide) rfl ?_
    refine rhF.bipush (pc := 112) (v := 8) dX12_readHouse_112 (by decide) ?_
    refine rhF.aload_n (pc := 114) dX12_readHouse_114 3 rfl ?_
    refine rhF.get (pc := 115) (rhI _) dX12_readHouse_115 fl_X12_318 h10 rfl ?_
    refine rhF.imul (pc := 118) dX12_readHouse_118 ?_
    refine rhF.istore (pc := 119) (L' := [(6, rhI _), (5, rhI _), (4, rhI _), (2, rhJ _), (0, rhR _), (1, rhI _)]) dX12_readHouse_119 (by decide) rfl ?_
    refine rhF.sub [4, 5, 3, 2, 1, 0] rfl ?_
    exact (b_X12_readHouse_121 (b_X12_readHouse_161) rhFU) _ _ _ _ _ _ _
set_option maxHeartbeats 4000000 in
set_option maxRecDepth 100000 in
theorem b_X12_readHouse {E : rhE} {Γ : rhG} : ∀ (M : rhM) (v0 : Nat), rhF E 8 7 yX12_readHouse cX12_readHouse none Γ (rhe1U Γ) (f_X12_readHouse Γ M v0) 0 [(0, rhR v0)] [] Γ M := by
  intro M v0
  rw [f_X12_readHouse]
  refine rhF.bipush (pc := 0) (v := 8) dX12_readHouse_0 (by decide) ?_
  refine rhF.aload_n (pc := 2) dX12_readHouse_2 0 rfl ?_
  refine rhF.ck (fun h1 => ?_)
  refine rhF.get (pc := 3) (rhI _) dX12_readHouse_3 fl_X12_318 h1 rfl ?_
  refine rhF.imul (pc := 6) dX12_readHouse_6 ?_
  refine rhF.aload_n (pc := 7) dX12_readHouse_7 0 rfl ?_
  refine rhF.get (pc := 8) (rhR _) dX12_readHouse_8 fl_X12_24 h1 rfl ?_
  refine rhF.aload_n (pc := 11) dX12_readHouse_11 0 rfl ?_
  refine rhF.get (pc := 12) (rhI _) dX12_readHouse_12 fl_X12_318 h1 rfl ?_
  refine rhF.ck (fun h2 => ?_)
  refine rhF.ck (fun h3 => ?_)
  refine rhF.iald (pc := 15) dX12_readHouse_15 h2 h3 ?_
  refine rhF.iadd (pc := 16) dX12_readHouse_16 ?_
  refine rhF.istore_n (pc := 17) (L' := [(1, rhI _), (0, rhR _)]) dX12_readHouse_17 (by decide) rfl ?_
  refine rhF.aload_n (pc := 18) dX12_readHouse_18 1 rfl ?_
  refine rhF.aload_n (pc := 19) dX12_readHouse_19 1 rfl ?_
  refine rhF.callV (pc := 20) (ci := 12) (embc := rhe0I _ _) [] dX12_readHouse_20 ml_X12_376 mv_X12_houseHere ⟨_, rfl, rfl⟩ h1 (c_X12_houseHere _ _ _ _) (by decide) (by decide) rfl (Nat.le_of_ble_eq_true rfl) (fun r5 _ => ?_)
  refine rhF.if_lt (pc := 23) 30 dX12_readHouse_23 (by decide) (fun h6 => ?_) (fun h6 => ?_)
  · refine rhF.iconst (pc := 30) (v := 0) dX12_readHouse_30 (by decide) ?_
    refine rhF.sub [1, 0] rfl ?_
    exact (b_X12_readHouse_31) _ _ _ _ _
  · refine rhF.iconst (pc := 26) (v := 1) dX12_readHouse_26 (by decide) ?_
    refine rhF.goto (pc := 27) 31 dX12_readHouse_27 (by decide) ?_
    refine rhF.sub [1, 0] rfl ?_
    exact (b_X12_readHouse_31) _ _ _ _ _
theorem c_X12_readHouse (E : rhE) (Γ : rhG) (M : rhM) (v0 : Nat) : ∀ a, f_X12_readHouse Γ M v0 = some a → rhC E 8 yX12_readHouse cX12_readHouse 7 none [rhR v0] Γ M ((rhe1U Γ) a) := rhF.met (by decide +kernel) (Nat.le_of_ble_eq_true rfl) (b_X12_readHouse M v0)
def f_X12_readRail_35 (Γ : rhG) (M : rhM) (v0 : Nat) (v1 : Int32) (s0 : Nat) (s1 : Int32) (s2 : Nat) (s3 : Int32) : Option (rhM) :=
  rhck (Γ.2.2.1 s2 = 13) <|
  (f_X12_fresh Γ M s2 s3).bind fun r8 =>
  rhck (Γ.2.2.1 s0 = 16) <|
  rhck (0 ≤ (s1).toInt ∧ (s1).toInt < (Γ.2.2.2 s0 : Nat)) <|
  let M11 := rhsl r8.2 s0 (s1 : Int32).toNatClampNeg r8.1
  rhck (Γ.2.2.1 v0 = 13) <|
  (f_X12_after Γ M11 v0 ((119182899770472 : Int64)) (1 : Int32) (99 : Int32)).bind fun r13 =>
  rhck (Γ.2.2.1 (r8.2.2.2 v0 18) = 15) <|
  rhck (0 ≤ (v1).toInt ∧ (v1).toInt < (Γ.2.2.2 (r8.2.2.2 v0 18) : Nat)) <|
  let M16 := rhsi r13.2 (r8.2.2.2 v0 18) (v1 : Int32).toNatClampNeg r13.1
  rhck (Γ.2.2.1 (r13.2.2.2 v0 11) = 15) <|
  rhck (0 ≤ (M16.1 v0 35).toInt ∧ (M16.1 v0 35).toInt < (Γ.2.2.2 (r13.2.2.2 v0 11) : Nat)) <|
  let M19 := rhsi M16 (r13.2.2.2 v0 11) (M16.1 v0 35 : Int32).toNatClampNeg ((M16.1 (r13.2.2.2 v0 11) (M16.1 v0 35).toNatClampNeg) + 1)
  some M19
def f_X12_readRail (Γ : rhG) (M : rhM) (v0 : Nat) : Option (rhM) :=
  rhck (Γ.2.2.1 v0 = 13) <|
  rhck (Γ.2.2.1 (M.2.2 v0 11) = 15) <|
  rhck (0 ≤ (M.1 v0 35).toInt ∧ (M.1 v0 35).toInt < (Γ.2.2.2 (M.2.2 v0 11) : Nat)) <|
  let x4 := (5 * (M.1 v0 35)) + (M.1 (M.2.2 v0 11) (M.1 v0 35).toNatClampNeg)
  (f_X12_railHere Γ M v0).bind fun r5 =>
  if r5 < 0 then
    (f_X12_readRail_35 Γ M v0 x4 (M.2.2 v0 27) x4 v0 0)
  else
    f_X12_readRail_35 Γ M v0 x4 (M.2.2 v0 27) x4 v0 1
set_option maxHeartbeats 4000000 in
set_option maxRecDepth 100000 in
theorem b_X12_readRail_35 {E : rhE} {Γ : rhG} : ∀ (M : rhM) (v0 : Nat) (v1 : Int32) (s0 : Nat) (s1 : Int32) (s2 : Nat) (s3 : Int32), rhF E 8 2 yX12_readRail cX12_readRail none Γ (rhe1U Γ) (f_X12_readRail_35 Γ M v0 v1 s0 s1 s2 s3) 35 [(0, rhR v0), (1, rhI v1)] [rhI s3, rhR s2, rhI s1, rhR s0] Γ M := by
  intro M v0 v1 s0 s1 s2 s3
  rw [f_X12_readRail_35]
  refine rhF.ck (fun h7 => ?_)
  refine rhF.callV (pc := 35) (ci := 12) (embc := rhe1J _) [rhI _] dX12_readRail_35 ml_X12_368 mv_X12_fresh ⟨_, rfl, rfl⟩ h7 (c_X12_fresh _ _ _ _ _) (by decide) (by decide) rfl (Nat.le_of_ble_eq_true rfl) (fun r8 _ => ?_)
  refine rhF.ck (fun h9 => ?_)
  refine rhF.ck (fun h10 => ?_)
  refine rhF.last (pc := 38) dX12_readRail_38 h9 h10 ?_
  refine rhF.aload_n (pc := 39) dX12_readRail_39 0 rfl ?_
  refine rhF.ck (fun h12 => ?_)
  refine rhF.get (pc := 40) (rhR _) dX12_readRail_40 fl_X12_42 h12 rfl ?_
  refine rhF.iload_n (pc := 43) dX12_readRail_43 1 rfl ?_
  refine rhF.aload_n (pc := 44) dX12_readRail_44 0 rfl ?_
  refine rhF.ldc2 (pc := 45) dX12_readRail_45 k_X12_222 ?_
  refine rhF.iconst (pc := 48) (v := 1) dX12_readRail_48 (by decide) ?_
  refine rhF.bipush (pc := 49) (v := 99) dX12_readRail_49 (by decide) ?_
  refine rhF.callV (pc := 51) (ci := 12) (embc := rhe1I _) [rhJ _, rhI _, rhI _] dX12_readRail_51 ml_X12_372 mv_X12_after ⟨_, rfl, rfl⟩ h12 (c_X12_after _ _ _ _ _ _ _) (by decide) (by decide) rfl (Nat.le_of_ble_eq_true rfl) (fun r13 _ => ?_)
  refine rhF.ck (fun h14 => ?_)
  refine rhF.ck (fun h15 => ?_)
  refine rhF.iast (pc := 54) dX12_readRail_54 h14 h15 ?_
  refine rhF.aload_n (pc := 55) dX12_readRail_55 0 rfl ?_
  refine rhF.get (pc := 56) (rhR _) dX12_readRail_56 fl_X12_20 h12 rfl ?_
  refine rhF.aload_n (pc := 59) dX12_readRail_59 0 rfl ?_
  refine rhF.get (pc := 60) (rhI _) dX12_readRail_60 fl_X12_318 h12 rfl ?_
  refine rhF.dup2ri (pc := 63) dX12_readRail_63 ?_
  refine rhF.ck (fun h17 => ?_)
  refine rhF.ck (fun h18 => ?_)
  refine rhF.iald (pc := 64) dX12_readRail_64 h17 h18 ?_
  refine rhF.iconst (pc := 65) (v := 1) dX12_readRail_65 (by decide) ?_
  refine rhF.iadd (pc := 66) dX12_readRail_66 ?_
  refine rhF.iast (pc := 67) dX12_readRail_67 h17 h18 ?_
  exact rhF.vret (pc := 68) dX12_readRail_68 rfl rfl
set_option maxHeartbeats 4000000 in
set_option maxRecDepth 100000 in
theorem b_X12_readRail {E : rhE} {Γ : rhG} : ∀ (M : rhM) (v0 : Nat), rhF E 8 2 yX12_readRail cX12_readRail none Γ (rhe1U Γ) (f_X12_readRail Γ M v0) 0 [(0, rhR v0)] [] Γ M := by
  intro M v0
  rw [f_X12_readRail]
  refine rhF.iconst (pc := 0) (v := 5) dX12_readRail_0 (by decide) ?_
  refine rhF.aload_n (pc := 1) dX12_readRail_1 0 rfl ?_
  refine rhF.ck (fun h1 => ?_)
  refine rhF.get (pc := 2) (rhI _) dX12_readRail_2 fl_X12_318 h1 rfl ?_
  refine rhF.imul (pc := 5) dX12_readRail_5 ?_
  refine rhF.aload_n (pc := 6) dX12_readRail_6 0 rfl ?_
  refine rhF.get (pc := 7) (rhR _) dX12_readRail_7 fl_X12_20 h1 rfl ?_
  refine rhF.aload_n (pc := 10) dX12_readRail_10 0 rfl ?_
  refine rhF.get (pc := 11) (rhI _) dX12_readRail_11 fl_X12_318 h1 rfl ?_
  refine rhF.ck (fun h2 => ?_)
  refine rhF.ck (fun h3 => ?_)
  refine rhF.iald (pc := 14) dX12_readRail_14 h2 h3 ?_
  refine rhF.iadd (pc := 15) dX12_readRail_15 ?_
  refine rhF.istore_n (pc := 16) (L' := [(1, rhI _), (0, rhR _)]) dX12_readRail_16 (by decide) rfl ?_
  refine rhF.aload_n (pc := 17) dX12_readRail_17 1 rfl ?_
  refine rhF.get (pc := 18) (rhR _) dX12_readRail_18 fl_X12_70 h1 rfl ?_
  refine rhF.iload_n (pc := 21) dX12_readRail_21 0 rfl ?_
  refine rhF.aload_n (pc := 22) dX12_readRail_22 1 rfl ?_
  refine rhF.aload_n (pc := 23) dX12_readRail_23 1 rfl ?_
  refine rhF.callV (pc := 24) (ci := 12) (embc := rhe0I _ _) [] dX12_readRail_24 ml_X12_364 mv_X12_railHere ⟨_, rfl, rfl⟩ h1 (c_X12_railHere _ _ _ _) (by decide) (by decide) rfl (Nat.le_of_ble_eq_true rfl) (fun r5 _ => ?_)
  refine rhF.if_lt (pc := 27) 34 dX12_readRail_27 (by decide) (fun h6 => ?_) (fun h6 => ?_)
  · refine rhF.iconst (pc := 34) (v := 0) dX12_readRail_34 (by decide) ?_
    refine rhF.sub [1, 0] rfl ?_
    exact (b_X12_readRail_35) _ _ _ _ _ _ _
  · refine rhF.iconst (pc := 30) (v := 1) dX12_readRail_30 (by decide) ?_
    refine rhF.goto (pc := 31) 35 dX12_readRail_31 (by decide) ?_
    refine rhF.sub [1, 0] rfl ?_
    exact (b_X12_readRail_35) _ _ _ _ _ _ _
theorem c_X12_readRail (E : rhE) (Γ : rhG) (M : rhM) (v0 : Nat) : ∀ a, f_X12_readRail Γ M v0 = some a → rhC E 8 yX12_readRail cX12_readRail 2 none [rhR v0] Γ M ((rhe1U Γ) a) := rhF.met (by decide +kernel) (Nat.le_of_ble_eq_true rfl) (b_X12_readRail M v0)
def f_X12_readLine_177 (Γ : rhG) (M : rhM) (v0 : Nat) : Option (rhM) :=
  rhck (Γ.2.2.1 v0 = 13) <|
  (f_X12_stands Γ M v0 (59 : Int32)).bind fun r46 =>
  (f_X12_must Γ M v0 r46).bind fun r47 =>
  some r47
def f_X12_readLine_142 (Γ : rhG) (M : rhM) (v0 : Nat) (v1 : Int64) : Option (rhM) :=
  if v1 = ((7102839 : Int64)) then
    (rhck (Γ.2.2.1 v0 = 13) <|
    rhck (Γ.2.2.1 (M.2.2 v0 25) = 17) <|
    rhck (0 ≤ (M.1 v0 35).toInt ∧ (M.1 v0 35).toInt < (Γ.2.2.2 (M.2.2 v0 25) : Nat)) <|
    let M40 := rhsi M (M.2.2 v0 25) (M.1 v0 35 : Int32).toNatClampNeg (vp_nar .boolean 1)
    (f_X12_e Γ M40 v0).bind fun r41 =>
    rhck (Γ.2.2.1 (r41.2.2 v0 17) = 15) <|
    rhck (0 ≤ (r41.1 v0 35).toInt ∧ (r41.1 v0 35).toInt < (Γ.2.2.2 (r41.2.2 v0 17) : Nat)) <|
    let M44 := rhsi r41 (r41.2.2 v0 17) (r41.1 v0 35 : Int32).toNatClampNeg (r41.1 v0 36)
    f_X12_readLine_177 Γ M44 v0)
  else
    f_X12_readLine_177 Γ M v0
def f_X12_readLine_107 (Γ : rhG) (M : rhM) (v0 : Nat) (v1 : Int64) : Option (rhM) :=
  if v1 = ((431415719795 : Int64)) then
    (rhck (Γ.2.2.1 v0 = 13) <|
    rhck (Γ.2.2.1 (M.2.2 v0 24) = 17) <|
    rhck (0 ≤ (M.1 v0 35).toInt ∧ (M.1 v0 35).toInt < (Γ.2.2.2 (M.2.2 v0 24) : Nat)) <|
    let M31 := rhsi M (M.2.2 v0 24) (M.1 v0 35 : Int32).toNatClampNeg (vp_nar .boolean 1)
    (f_X12_numeral Γ M31 v0 (1 : Int32) (999 : Int32)).bind fun r32 =>
    rhck (Γ.2.2.1 (M.2.2 v0 16) = 15) <|
    rhck (0 ≤ (M31.1 v0 35).toInt ∧ (M31.1 v0 35).toInt < (Γ.2.2.2 (M.2.2 v0 16) : Nat)) <|
    let M35 := rhsi r32.2 (M.2.2 v0 16) (M31.1 v0 35 : Int32).toNatClampNeg r32.1
    f_X12_readLine_142 Γ M35 v0 v1)
  else
    f_X12_readLine_142 Γ M v0 v1
def f_X12_readLine_72 (Γ : rhG) (M : rhM) (v0 : Nat) (v1 : Int64) : Option (rhM) :=
  if v1 = ((1852138347 : Int64)) then
    (rhck (Γ.2.2.1 v0 = 13) <|
    rhck (Γ.2.2.1 (M.2.2 v0 23) = 17) <|
    rhck (0 ≤ (M.1 v0 35).toInt ∧ (M.1 v0 35).toInt < (Γ.2.2.2 (M.2.2 v0 23) : Nat)) <|
    let M22 := rhsi M (M.2.2 v0 23) (M.1 v0 35 : Int32).toNatClampNeg (vp_nar .boolean 1)
    (f_X12_numeral Γ M22 v0 (1 : Int32) (999 : Int32)).bind fun r23 =>
    rhck (Γ.2.2.1 (M.2.2 v0 15) = 15) <|
    rhck (0 ≤ (M22.1 v0 35).toInt ∧ (M22.1 v0 35).toInt < (Γ.2.2.2 (M.2.2 v0 15) : Nat)) <|
    let M26 := rhsi r23.2 (M.2.2 v0 15) (M22.1 v0 35 : Int32).toNatClampNeg r23.1
    f_X12_readLine_107 Γ M26 v0 v1)
  else
    f_X12_readLine_107 Γ M v0 v1
def f_X12_readLine_60 (Γ : rhG) (M : rhM) (v0 : Nat) (v1 : Int64) : Option (rhM) :=
  if v1 = ((108187867505765 : Int64)) then
    (rhck (Γ.2.2.1 v0 = 13) <|
    (f_X12_readBeside Γ M v0).bind fun r17 =>
    f_X12_readLine_72 Γ r17 v0 v1)
  else
    f_X12_readLine_72 Γ M v0 v1
def f_X12_readLine_48 (Γ : rhG) (M : rhM) (v0 : Nat) (v1 : Int64) : Option (rhM) :=
  if v1 = ((448546567013 : Int64)) then
    (rhck (Γ.2.2.1 v0 = 13) <|
    (f_X12_readHouse Γ M v0).bind fun r14 =>
    f_X12_readLine_60 Γ r14 v0 v1)
  else
    f_X12_readLine_60 Γ M v0 v1
def f_X12_readLine_24 (Γ : rhG) (M : rhM) (v0 : Nat) (v1 : Int64) : Option (rhM) :=
  rhck (Γ.2.2.1 v0 = 13) <|
  (f_X12_isGood Γ M v0).bind fun r7 =>
  if r7 = 0 then
    (some M)
  else
    (f_X12_goOn Γ M v0).bind fun r9 =>
    if v1 = ((1918986604 : Int64)) then
      ((f_X12_readRail Γ r9 v0).bind fun r11 =>
      f_X12_readLine_48 Γ r11 v0 v1)
    else
      f_X12_readLine_48 Γ r9 v0 v1
def f_X12_readLine_20 (k24 : rhM → Nat → Int64 → Option (rhM)) (Γ : rhG) (M : rhM) (v0 : Nat) (v1 : Int64) : Option (rhM) :=
  rhck (Γ.2.2.1 v0 = 13) <|
  (f_X12_misplaced Γ M v0).bind fun r49 =>
  k24 r49 v0 v1
def f_X12_readLine (Γ : rhG) (M : rhM) (v0 : Nat) : Option (rhM) :=
  rhck (Γ.2.2.1 v0 = 13) <|
  let x2 := M.2.1 v0 10
  if (M.1 v0 8) = 3 then
    ((f_X12_isFull Γ M v0).bind fun r4 =>
    if r4 = 0 then
      (f_X12_readLine_24 Γ M v0 x2)
    else
      f_X12_readLine_20 (f_X12_readLine_24 Γ) Γ M v0 x2)
  else
    f_X12_readLine_20 (f_X12_readLine_24 Γ) Γ M v0 x2
set_option maxHeartbeats 4000000 in
set_option maxRecDepth 100000 in
theorem b_X12_readLine_177 {E : rhE} {Γ : rhG} : ∀ (M : rhM) (v0 : Nat), rhF E 9 3 yX12_readLine cX12_readLine none Γ (rhe1U Γ) (f_X12_readLine_177 Γ M v0) 177 [(0, rhR v0)] [] Γ M := by
  intro M v0
  rw [f_X12_readLine_177]
  refine rhF.aload_n (pc := 177) dX12_readLine_177 0 rfl ?_
  refine rhF.aload_n (pc := 178) dX12_readLine_178 0 rfl ?_
  refine rhF.bipush (pc := 179) (v := 59) dX12_readLine_179 (by decide) ?_
  refine rhF.ck (fun h45 => ?_)
  refine rhF.callV (pc := 181) (ci := 12) (embc := rhe0I _ _) [rhI _] dX12_readLine_181 ml_X12_315 mv_X12_stands ⟨_, rfl, rfl⟩ h45 (c_X12_stands _ _ _ _ _) (by decide) (by decide) rfl (Nat.le_of_ble_eq_true rfl) (fun r46 _ => ?_)
  refine rhF.callV (pc := 184) (ci := 12) (embc := rhe1U _) [rhI _] dX12_readLine_184 ml_X12_307 mv_X12_must ⟨_, rfl, rfl⟩ h45 (c_X12_must _ _ _ _ _) (by decide) (by decide) rfl (Nat.le_of_ble_eq_true rfl) (fun r47 _ => ?_)
  exact rhF.vret (pc := 187) dX12_readLine_187 rfl rfl
set_option maxHeartbeats 4000000 in
set_option maxRecDepth 100000 in
theorem b_X12_readLine_142 {E : rhE} {Γ : rhG} : ∀ (M : rhM) (v0 : Nat) (v1 : Int64), rhF E 9 3 yX12_readLine cX12_readLine none Γ (rhe1U Γ) (f_X12_readLine_142 Γ M v0 v1) 142 [(0, rhR v0), (1, rhJ v1)] [] Γ M := by
  intro M v0 v1
  rw [f_X12_readLine_142]
  refine rhF.lload_n (pc := 142) dX12_readLine_142 1 rfl ?_
  refine rhF.ldc2 (pc := 143) dX12_readLine_143 k_X12_238 ?_
  refine rhF.lcne (pc := 146) 177 dX12_readLine_146 dX12_readLine_147 (by decide) (fun h36 => ?_) (fun h36 => ?_)
  · refine rhF.aload_n (pc := 150) dX12_readLine_150 0 rfl ?_
    refine rhF.ck (fun h37 => ?_)
    refine rhF.get (pc := 151) (rhR _) dX12_readLine_151 fl_X12_64 h37 rfl ?_
    refine rhF.aload_n (pc := 154) dX12_readLine_154 0 rfl ?_
    refine rhF.get (pc := 155) (rhI _) dX12_readLine_155 fl_X12_318 h37 rfl ?_
    refine rhF.iconst (pc := 158) (v := 1) dX12_readLine_158 (by decide) ?_
    refine rhF.ck (fun h38 => ?_)
    refine rhF.ck (fun h39 => ?_)
    refine rhF.zast (pc := 159) dX12_readLine_159 h38 h39 ?_
    refine rhF.aload_n (pc := 160) dX12_readLine_160 0 rfl ?_
    refine rhF.callV (pc := 161) (ci := 12) (embc := rhe1U _) [] dX12_readLine_161 ml_X12_357 mv_X12_e ⟨_, rfl, rfl⟩ h37 (c_X12_e _ _ _ _) (by decide) (by decide) rfl (Nat.le_of_ble_eq_true rfl) (fun r41 _ => ?_)
    refine rhF.aload_n (pc := 164) dX12_readLine_164 0 rfl ?_
    refine rhF.get (pc := 165) (rhR _) dX12_readLine_165 fl_X12_39 h37 rfl ?_
    refine rhF.aload_n (pc := 168) dX12_readLine_168 0 rfl ?_
    refine rhF.get (pc := 169) (rhI _) dX12_readLine_169 fl_X12_318 h37 rfl ?_
    refine rhF.aload_n (pc := 172) dX12_readLine_172 0 rfl ?_
    refine rhF.get (pc := 173) (rhI _) dX12_readLine_173 fl_X12_321 h37 rfl ?_
    refine rhF.ck (fun h42 => ?_)
    refine rhF.ck (fun h43 => ?_)
    refine rhF.iast (pc := 176) dX12_readLine_176 h42 h43 ?_
    refine rhF.sub [0] rfl ?_
    exact (b_X12_readLine_177) _ _
  · refine rhF.sub [0] rfl ?_
    exact (b_X12_readLine_177) _ _
set_option maxHeartbeats 4000000 in
set_option maxRecDepth 100000 in
theorem b_X12_readLine_107 {E : rhE} {Γ : rhG} : ∀ (M : rhM) (v0 : Nat) (v1 : Int64), rhF E 9 3 yX12_readLine cX12_readLine none Γ (rhe1U Γ) (f_X12_readLine_107 Γ M v0 v1) 107 [(0, rhR v0), (1, rhJ v1)] [] Γ M := by
  intro M v0 v1
  rw [f_X12_readLine_107]
  refine rhF.lload_n (pc := 107) dX12_readLine_107 1 rfl ?_
  refine rhF.ldc2 (pc := 108) dX12_readLine_108 k_X12_236 ?_
  refine rhF.lcne (pc := 111) 142 dX12_readLine_111 dX12_readLine_112 (by decide) (fun h27 => ?_) (fun h27 => ?_)
  · refine rhF.aload_n (pc := 115) dX12_readLine_115 0 rfl ?_
    refine rhF.ck (fun h28 => ?_)
    refine rhF.get (pc := 116) (rhR _) dX12_readLine_116 fl_X12_61 h28 rfl ?_
    refine rhF.aload_n (pc := 119) dX12_readLine_119 0 rfl ?_
    refine rhF.get (pc := 120) (rhI _) dX12_readLine_120 fl_X12_318 h28 rfl ?_
    refine rhF.iconst (pc := 123) (v := 1) dX12_readLine_123 (by decide) ?_
    refine rhF.ck (fun h29 => ?_)
    refine rhF.ck (fun h30 => ?_)
    refine rhF.zast (pc := 124) dX12_readLine_124 h29 h30 ?_
    refine rhF.aload_n (pc := 125) dX12_readLine_125 0 rfl ?_
    refine rhF.get (pc := 126) (rhR _) dX12_readLine_126 fl_X12_36 h28 rfl ?_
    refine rhF.aload_n (pc := 129) dX12_readLine_129 0 rfl ?_
    refine rhF.get (pc := 130) (rhI _) dX12_readLine_130 fl_X12_318 h28 rfl ?_
    refine rhF.aload_n (pc := 133) dX12_readLine_133 0 rfl ?_
    refine rhF.iconst (pc := 134) (v := 1) dX12_readLine_134 (by decide) ?_
    refine rhF.sipush (pc := 135) (v := 999) dX12_readLine_135 (by decide) ?_
    refine rhF.callV (pc := 138) (ci := 12) (embc := rhe1I _) [rhI _, rhI _] dX12_readLine_138 ml_X12_311 mv_X12_numeral ⟨_, rfl, rfl⟩ h28 (c_X12_numeral _ _ _ _ _ _) (by decide) (by decide) rfl (Nat.le_of_ble_eq_true rfl) (fun r32 _ => ?_)
    refine rhF.ck (fun h33 => ?_)
    refine rhF.ck (fun h34 => ?_)
    refine rhF.iast (pc := 141) dX12_readLine_141 h33 h34 ?_
    exact (b_X12_readLine_142) _ _ _
  · exact (b_X12_readLine_142) _ _ _
set_option maxHeartbeats 4000000 in
set_option maxRecDepth 100000 in
theorem b_X12_readLine_72 {E : rhE} {Γ : rhG} : ∀ (M : rhM) (v0 : Nat) (v1 : Int64), rhF E 9 3 yX12_readLine cX12_readLine none Γ (rhe1U Γ) (f_X12_readLine_72 Γ M v0 v1) 72 [(0, rhR v0), (1, rhJ v1)] [] Γ M := by
  intro M v0 v1
  rw [f_X12_readLine_72]
  refine rhF.lload_n (pc := 72) dX12_readLine_72 1 rfl ?_
  refine rhF.ldc2 (pc := 73) dX12_readLine_73 k_X12_234 ?_
  refine rhF.lcne (pc := 76) 107 dX12_readLine_76 dX12_readLine_77 (by decide) (fun h18 => ?_) (fun h18 => ?_)
  · refine rhF.aload_n (pc := 80) dX12_readLine_80 0 rfl ?_
    refine rhF.ck (fun h19 => ?_)
    refine rhF.get (pc := 81) (rhR _) dX12_readLine_81 fl_X12_57 h19 rfl ?_
    refine rhF.aload_n (pc := 84) dX12_readLine_84 0 rfl ?_
    refine rhF.get (pc := 85) (rhI _) dX12_readLine_85 fl_X12_318 h19 rfl ?_
    refine rhF.iconst (pc := 88) (v := 1) dX12_readLine_88 (by decide) ?_
    refine rhF.ck (fun h20 => ?_)
    refine rhF.ck (fun h21 => ?_)
    refine rhF.zast (pc := 89) dX12_readLine_89 h20 h21 ?_
    refine rhF.aload_n (pc := 90) dX12_readLine_90 0 rfl ?_
    refine rhF.get (pc := 91) (rhR _) dX12_readLine_91 fl_X12_33 h19 rfl ?_
    refine rhF.aload_n (pc := 94) dX12_readLine_94 0 rfl ?_
    refine rhF.get (pc := 95) (rhI _) dX12_readLine_95 fl_X12_318 h19 rfl ?_
    refine rhF.aload_n (pc := 98) dX12_readLine_98 0 rfl ?_
    refine rhF.iconst (pc := 99) (v := 1) dX12_readLine_99 (by decide) ?_
    refine rhF.sipush (pc := 100) (v := 999) dX12_readLine_100 (by decide) ?_
    refine rhF.callV (pc := 103) (ci := 12) (embc := rhe1I _) [rhI _, rhI _] dX12_readLine_103 ml_X12_311 mv_X12_numeral ⟨_, rfl, rfl⟩ h19 (c_X12_numeral _ _ _ _ _ _) (by decide) (by decide) rfl (Nat.le_of_ble_eq_true rfl) (fun r23 _ => ?_)
    refine rhF.ck (fun h24 => ?_)
    refine rhF.ck (fun h25 => ?_)
    refine rhF.iast (pc := 106) dX12_readLine_106 h24 h25 ?_
    exact (b_X12_readLine_107) _ _ _
  · exact (b_X12_readLine_107) _ _ _
set_option maxHeartbeats 4000000 in
set_option maxRecDepth 100000 in
theorem b_X12_readLine_60 {E : rhE} {Γ : rhG} : ∀ (M : rhM) (v0 : Nat) (v1 : Int64), rhF E 9 3 yX12_readLine cX12_readLine none Γ (rhe1U Γ) (f_X12_readLine_60 Γ M v0 v1) 60 [(0, rhR v0), (1, rhJ v1)] [] Γ M := by
  intro M v0 v1
  rw [f_X12_readLine_60]
  refine rhF.lload_n (pc := 60) dX12_readLine_60 1 rfl ?_
  refine rhF.ldc2 (pc := 61) dX12_readLine_61 k_X12_230 ?_
  refine rhF.lcne (pc := 64) 72 dX12_readLine_64 dX12_readLine_65 (by decide) (fun h15 => ?_) (fun h15 => ?_)
  · refine rhF.aload_n (pc := 68) dX12_readLine_68 0 rfl ?_
    refine rhF.ck (fun h16 => ?_)
    refine rhF.callV (pc := 69) (ci := 12) (embc := rhe1U _) [] dX12_readLine_69 ml_X12_354 mv_X12_readBeside ⟨_, rfl, rfl⟩ h16 (c_X12_readBeside _ _ _ _) (by decide) (by decide) rfl (Nat.le_of_ble_eq_true rfl) (fun r17 _ => ?_)
    exact (b_X12_readLine_72) _ _ _
  · exact (b_X12_readLine_72) _ _ _
set_option maxHeartbeats 4000000 in
set_option maxRecDepth 100000 in
theorem b_X12_readLine_48 {E : rhE} {Γ : rhG} : ∀ (M : rhM) (v0 : Nat) (v1 : Int64), rhF E 9 3 yX12_readLine cX12_readLine none Γ (rhe1U Γ) (f_X12_readLine_48 Γ M v0 v1) 48 [(0, rhR v0), (1, rhJ v1)] [] Γ M := by
  intro M v0 v1
  rw [f_X12_readLine_48]
  refine rhF.lload_n (pc := 48) dX12_readLine_48 1 rfl ?_
  refine rhF.ldc2 (pc := 49) dX12_readLine_49 k_X12_224 ?_
  refine rhF.lcne (pc := 52) 60 dX12_readLine_52 dX12_readLine_53 (by decide) (fun h12 => ?_) (fun h12 => ?_)
  · refine rhF.aload_n (pc := 56) dX12_readLine_56 0 rfl ?_
    refine rhF.ck (fun h13 => ?_)
    refine rhF.callV (pc := 57) (ci := 12) (embc := rhe1U _) [] dX12_readLine_57 ml_X12_351 mv_X12_readHouse ⟨_, rfl, rfl⟩ h13 (c_X12_readHouse _ _ _ _) (by decide) (by decide) rfl (Nat.le_of_ble_eq_true rfl) (fun r14 _ => ?_)
    exact (b_X12_readLine_60) _ _ _
  · exact (b_X12_readLine_60) _ _ _
set_option maxHeartbeats 4000000 in
set_option maxRecDepth 100000 in
theorem b_X12_readLine_24 {E : rhE} {Γ : rhG} : ∀ (M : rhM) (v0 : Nat) (v1 : Int64), rhF E 9 3 yX12_readLine cX12_readLine none Γ (rhe1U Γ) (f_X12_readLine_24 Γ M v0 v1) 24 [(0, rhR v0), (1, rhJ v1)] [] Γ M := by
  intro M v0 v1
  rw [f_X12_readLine_24]
  refine rhF.aload_n (pc := 24) dX12_readLine_24 0 rfl ?_
  refine rhF.ck (fun h6 => ?_)
  refine rhF.callV (pc := 25) (ci := 12) (embc := rhe0I _ _) [] dX12_readLine_25 ml_X12_294 mv_X12_isGood ⟨_, rfl, rfl⟩ h6 (c_X12_isGood _ _ _ _) (by decide) (by decide) rfl (Nat.le_of_ble_eq_true rfl) (fun r7 _ => ?_)
  refine rhF.if_ne (pc := 28) 32 dX12_readLine_28 (by decide) (fun h8 => ?_) (fun h8 => ?_)
  · exact rhF.vret (pc := 31) dX12_readLine_31 rfl rfl
  · refine rhF.aload_n (pc := 32) dX12_readLine_32 0 rfl ?_
    refine rhF.callV (pc := 33) (ci := 12) (embc := rhe1U _) [] dX12_readLine_33 ml_X12_298 mv_X12_goOn ⟨_, rfl, rfl⟩ h6 (c_X12_goOn _ _ _ _) (by decide) (by decide) rfl (Nat.le_of_ble_eq_true rfl) (fun r9 _ => ?_)
    refine rhF.lload_n (pc := 36) dX12_readLine_36 1 rfl ?_
    refine rhF.ldc2 (pc := 37) dX12_readLine_37 k_X12_220 ?_
    refine rhF.lcne (pc := 40) 48 dX12_readLine_40 dX12_readLine_41 (by decide) (fun h10 => ?_) (fun h10 => ?_)
    · refine rhF.aload_n (pc := 44) dX12_readLine_44 0 rfl ?_
      refine rhF.callV (pc := 45) (ci := 12) (embc := rhe1U _) [] dX12_readLine_45 ml_X12_348 mv_X12_readRail ⟨_, rfl, rfl⟩ h6 (c_X12_readRail _ _ _ _) (by decide) (by decide) rfl (Nat.le_of_ble_eq_true rfl) (fun r11 _ => ?_)
      exact (b_X12_readLine_48) _ _ _
    · exact (b_X12_readLine_48) _ _ _
set_option maxHeartbeats 4000000 in
set_option maxRecDepth 100000 in
theorem b_X12_readLine_20 {E : rhE} {Γ : rhG} {k24 : rhM → Nat → Int64 → Option (rhM)} (hk24 : ∀ (M : rhM) (v0 : Nat) (v1 : Int64), rhF E 9 3 yX12_readLine cX12_readLine none Γ (rhe1U Γ) (k24 M v0 v1) 24 [(0, rhR v0), (1, rhJ v1)] [] Γ M) : ∀ (M : rhM) (v0 : Nat) (v1 : Int64), rhF E 9 3 yX12_readLine cX12_readLine none Γ (rhe1U Γ) (f_X12_readLine_20 k24 Γ M v0 v1) 20 [(0, rhR v0), (1, rhJ v1)] [] Γ M := by
  intro M v0 v1
  rw [f_X12_readLine_20]
  refine rhF.aload_n (pc := 20) dX12_readLine_20 0 rfl ?_
  refine rhF.ck (fun h48 => ?_)
  refine rhF.callV (pc := 21) (ci := 12) (embc := rhe1U _) [] dX12_readLine_21 ml_X12_301 mv_X12_misplaced ⟨_, rfl, rfl⟩ h48 (c_X12_misplaced _ _ _ _) (by decide) (by decide) rfl (Nat.le_of_ble_eq_true rfl) (fun r49 _ => ?_)
  exact hk24 _ _ _
set_option maxHeartbeats 4000000 in
set_option maxRecDepth 100000 in
theorem b_X12_readLine {E : rhE} {Γ : rhG} : ∀ (M : rhM) (v0 : Nat), rhF E 9 3 yX12_readLine cX12_readLine none Γ (rhe1U Γ) (f_X12_readLine Γ M v0) 0 [(0, rhR v0)] [] Γ M := by
  intro M v0
  rw [f_X12_readLine]
  refine rhF.aload_n (pc := 0) dX12_readLine_0 0 rfl ?_
  refine rhF.ck (fun h1 => ?_)
  refine rhF.get (pc := 1) (rhJ _) dX12_readLine_1 fl_X12_273 h1 rfl ?_
  refine rhF.lstore_n (pc := 4) (L' := [(1, rhJ _), (0, rhR _)]) dX12_readLine_4 (by decide) rfl ?_
  refine rhF.aload_n (pc := 5) dX12_readLine_5 1 rfl ?_
  refine rhF.get (pc := 6) (rhI _) dX12_readLine_6 fl_X12_266 h1 rfl ?_
  refine rhF.iconst (pc := 9) (v := 3) dX12_readLine_9 (by decide) ?_
  refine rhF.icmp_ne (pc := 10) 20 dX12_readLine_10 (by decide) (fun h3 => ?_) (fun h3 => ?_)
  · refine rhF.aload_n (pc := 13) dX12_readLine_13 1 rfl ?_
    refine rhF.callV (pc := 14) (ci := 12) (embc := rhe0I _ _) [] dX12_readLine_14 ml_X12_345 mv_X12_isFull ⟨_, rfl, rfl⟩ h1 (c_X12_isFull _ _ _ _) (by decide) (by decide) rfl (Nat.le_of_ble_eq_true rfl) (fun r4 _ => ?_)
    refine rhF.if_eq (pc := 17) 24 dX12_readLine_17 (by decide) (fun h5 => ?_) (fun h5 => ?_)
    · refine rhF.sub [1, 0] rfl ?_
      exact (b_X12_readLine_24) _ _ _
    · refine rhF.sub [1, 0] rfl ?_
      exact (b_X12_readLine_20 (b_X12_readLine_24)) _ _ _
  · refine rhF.sub [1, 0] rfl ?_
    exact (b_X12_readLine_20 (b_X12_readLine_24)) _ _ _
theorem c_X12_readLine (E : rhE) (Γ : rhG) (M : rhM) (v0 : Nat) : ∀ a, f_X12_readLine Γ M v0 = some a → rhC E 9 yX12_readLine cX12_readLine 3 none [rhR v0] Γ M ((rhe1U Γ) a) := rhF.met (by decide +kernel) (Nat.le_of_ble_eq_true rfl) (b_X12_readLine M v0)
def f_X12_richest_75 (k88 : rhM → Nat → Int32 → Int32 → Int32 → Option (Int32 × rhM)) (Γ : rhG) (M : rhM) (v0 : Nat) (v4 : Int32) : Option (Int32 × rhM) :=
  rhck (Γ.2.2.1 v0 = 13) <|
  rhck (Γ.2.2.1 (M.2.2 v0 58) = 15) <|
  rhck (0 ≤ (v4).toInt ∧ (v4).toInt < (Γ.2.2.2 (M.2.2 v0 58) : Nat)) <|
  let x17 := M.1 (M.2.2 v0 58) v4.toNatClampNeg
  (f_X12_worthOfRow Γ M v0).bind fun r18 =>
  k88 M v0 x17 r18 v4
def f_X12_richest_88 (k40 : rhM → Nat → Int32 → Int32 → Int32 → Option (Int32 × rhM)) (Γ : rhG) (M : rhM) (v0 : Nat) (v2 : Int32) (v3 : Int32) (v4 : Int32) : Option (Int32 × rhM) :=
  let x19 : Int32 := v4 + 1
  k40 M v0 v2 v3 x19
def f_X12_richest_40 (k94 : rhM → Nat → Int32 → Int32 → Option (Int32 × rhM)) (Γ : rhG) : Nat → rhM → Nat → Int32 → Int32 → Int32 → Option (Int32 × rhM)
  | 0, _, _, _, _, _ => none
  | n + 1, M, v0, v2, v3, v4 =>
    rhck (Γ.2.2.1 v0 = 13) <|
    if v4 < (M.1 v0 60) then
      (rhck (Γ.2.2.1 (M.2.2 v0 58) = 15) <|
      rhck (0 ≤ (v4).toInt ∧ (v4).toInt < (Γ.2.2.2 (M.2.2 v0 58) : Nat)) <|
      (f_X12_layState Γ M v0 (M.1 (M.2.2 v0 58) v4.toNatClampNeg)).bind fun r12 =>
      if v2 < 0 then
        (f_X12_richest_75 (f_X12_richest_88 (f_X12_richest_40 k94 Γ n) Γ) Γ r12 v0 v4)
      else
        (f_X12_worthOfRow Γ r12 v0).bind fun r20 =>
        if v3 < r20 then
          (f_X12_richest_75 (f_X12_richest_88 (f_X12_richest_40 k94 Γ n) Γ) Γ r12 v0 v4)
        else
          f_X12_richest_88 (f_X12_richest_40 k94 Γ n) Γ r12 v0 v2 v3 v4)
    else
      k94 M v0 v2 v3
def f_X12_richest_94 (Γ : rhG) (M : rhM) (v0 : Nat) (v2 : Int32) (v3 : Int32) : Option (Int32 × rhM) :=
  rhck (Γ.2.2.1 v0 = 13) <|
  (f_X12_layWay Γ M v0 v2).bind fun r23 =>
  some ((v3, r23))
def f_X12_richest (Γ : rhG) (M : rhM) (v0 : Nat) (v1 : Int32) : Option (Int32 × rhM) :=
  rhck (Γ.2.2.1 v0 = 13) <|
  let M2 := rhsi M v0 66 0
  (f_X12_isIn Γ M2 v1 (0 : Int32) (30 : Int32)).bind fun r3 =>
  if r3 = 0 then
    (some (((-1000000), M2)))
  else
    (f_X12_isMany Γ M2 v0).bind fun r5 =>
    if r5 = 0 then
      ((f_X12_search Γ M2 v0 (2 : Int32) v1).bind fun r7 =>
      f_X12_richest_40 (f_X12_richest_94 Γ) Γ rhFU r7.2 v0 ((-1)) 0 0)
    else
      some (((-1000000), M2))
set_option maxHeartbeats 4000000 in
set_option maxRecDepth 100000 in
theorem b_X12_richest_75 {E : rhE} {Γ : rhG} {k88 : rhM → Nat → Int32 → Int32 → Int32 → Option (Int32 × rhM)} (hk88 : ∀ (M : rhM) (v0 : Nat) (v2 : Int32) (v3 : Int32) (v4 : Int32), rhF E 11 5 yX12_richest cX12_richest (some .int) Γ (rhe1I Γ) (k88 M v0 v2 v3 v4) 88 [(0, rhR v0), (2, rhI v2), (3, rhI v3), (4, rhI v4)] [] Γ M) : ∀ (M : rhM) (v0 : Nat) (v4 : Int32), rhF E 11 5 yX12_richest cX12_richest (some .int) Γ (rhe1I Γ) (f_X12_richest_75 k88 Γ M v0 v4) 75 [(0, rhR v0), (4, rhI v4)] [] Γ M := by
  intro M v0 v4
  rw [f_X12_richest_75]
  refine rhF.aload_n (pc := 75) dX12_richest_75 0 rfl ?_
  refine rhF.ck (fun h14 => ?_)
  refine rhF.get (pc := 76) (rhR _) dX12_richest_76 fl_X12_136 h14 rfl ?_
  refine rhF.iload (pc := 79) dX12_richest_79 1 rfl ?_
  refine rhF.ck (fun h15 => ?_)
  refine rhF.ck (fun h16 => ?_)
  refine rhF.iald (pc := 81) dX12_richest_81 h15 h16 ?_
  refine rhF.istore_n (pc := 82) (L' := [(2, rhI _), (0, rhR _), (4, rhI _)]) dX12_richest_82 (by decide) rfl ?_
  refine rhF.aload_n (pc := 83) dX12_richest_83 1 rfl ?_
  refine rhF.callV (pc := 84) (ci := 12) (embc := rhe0I _ _) [] dX12_richest_84 ml_X12_478 mv_X12_worthOfRow ⟨_, rfl, rfl⟩ h14 (c_X12_worthOfRow _ _ _ _) (by decide) (by decide) rfl (Nat.le_of_ble_eq_true rfl) (fun r18 _ => ?_)
  refine rhF.istore_n (pc := 87) (L' := [(3, rhI _), (2, rhI _), (0, rhR _), (4, rhI _)]) dX12_richest_87 (by decide) rfl ?_
  refine rhF.sub [2, 1, 0, 3] rfl ?_
  exact hk88 _ _ _ _ _
set_option maxHeartbeats 4000000 in
set_option maxRecDepth 100000 in
theorem b_X12_richest_88 {E : rhE} {Γ : rhG} {k40 : rhM → Nat → Int32 → Int32 → Int32 → Option (Int32 × rhM)} (hk40 : ∀ (M : rhM) (v0 : Nat) (v2 : Int32) (v3 : Int32) (v4 : Int32), rhF E 11 5 yX12_richest cX12_richest (some .int) Γ (rhe1I Γ) (k40 M v0 v2 v3 v4) 40 [(0, rhR v0), (2, rhI v2), (3, rhI v3), (4, rhI v4)] [] Γ M) : ∀ (M : rhM) (v0 : Nat) (v2 : Int32) (v3 : Int32) (v4 : Int32), rhF E 11 5 yX12_richest cX12_richest (some .int) Γ (rhe1I Γ) (f_X12_richest_88 k40 Γ M v0 v2 v3 v4) 88 [(0, rhR v0), (2, rhI v2), (3, rhI v3), (4, rhI v4)] [] Γ M := by
  intro M v0 v2 v3 v4
  rw [f_X12_richest_88]
  refine rhF.iinc (pc := 88) (L' := [(4, rhI _), (0, rhR _), (2, rhI _), (3, rhI _)]) dX12_richest_88 3 rfl rfl (by decide) rfl ?_
  refine rhF.goto (pc := 91) 40 dX12_richest_91 (by decide) ?_
  refine rhF.sub [1, 2, 3, 0] rfl ?_
  exact hk40 _ _ _ _ _
set_option maxHeartbeats 4000000 in
set_option maxRecDepth 100000 in
theorem b_X12_richest_40 {E : rhE} {Γ : rhG} {k94 : rhM → Nat → Int32 → Int32 → Option (Int32 × rhM)} (hk94 : ∀ (M : rhM) (v0 : Nat) (v2 : Int32) (v3 : Int32), rhF E 11 5 yX12_richest cX12_richest (some .int) Γ (rhe1I Γ) (k94 M v0 v2 v3) 94 [(0, rhR v0), (2, rhI v2), (3, rhI v3)] [] Γ M) : ∀ (n : Nat) (M : rhM) (v0 : Nat) (v2 : Int32) (v3 : Int32) (v4 : Int32), rhF E 11 5 yX12_richest cX12_richest (some .int) Γ (rhe1I Γ) (f_X12_richest_40 k94 Γ n M v0 v2 v3 v4) 40 [(0, rhR v0), (2, rhI v2), (3, rhI v3), (4, rhI v4)] [] Γ M := by
  intro n
  induction n with
  | zero => intro M v0 v2 v3 v4; rw [f_X12_richest_40]; exact rhF.nope
  | succ n ih =>
    intro M v0 v2 v3 v4
    rw [f_X12_richest_40]
    refine rhF.iload (pc := 40) dX12_richest_40 3 rfl ?_
    refine rhF.aload_n (pc := 42) dX12_richest_42 0 rfl ?_
    refine rhF.ck (fun h8 => ?_)
    refine rhF.get (pc := 43) (rhI _) dX12_richest_43 fl_X12_493 h8 rfl ?_
    refine rhF.icmp_ge (pc := 46) 94 dX12_richest_46 (by decide) (fun h9 => ?_) (fun h9 => ?_)
    · refine rhF.aload_n (pc := 49) dX12_richest_49 0 rfl ?_
      refine rhF.aload_n (pc := 50) dX12_richest_50 0 rfl ?_
      refine rhF.get (pc := 51) (rhR _) dX12_richest_51 fl_X12_136 h8 rfl ?_
      refine rhF.iload (pc := 54) dX12_richest_54 3 rfl ?_
      refine rhF.ck (fun h10 => ?_)
      refine rhF.ck (fun h11 => ?_)
      refine rhF.iald (pc := 56) dX12_richest_56 h10 h11 ?_
      refine rhF.callV (pc := 57) (ci := 12) (embc := rhe1U _) [rhI _] dX12_richest_57 ml_X12_499 mv_X12_layState ⟨_, rfl, rfl⟩ h8 (c_X12_layState _ _ _ _ _) (by decide) (by decide) rfl (Nat.le_of_ble_eq_true rfl) (fun r12 _ => ?_)
      refine rhF.iload_n (pc := 60) dX12_richest_60 1 rfl ?_
      refine rhF.if_lt (pc := 61) 75 dX12_richest_61 (by decide) (fun h13 => ?_) (fun h13 => ?_)
      · refine rhF.sub [0, 3] rfl ?_
        exact (b_X12_richest_75 (b_X12_richest_88 ih)) _ _ _
      · refine rhF.aload_n (pc := 64) dX12_richest_64 0 rfl ?_
        refine rhF.callV (pc := 65) (ci := 12) (embc := rhe0I _ _) [] dX12_richest_65 ml_X12_478 mv_X12_worthOfRow ⟨_, rfl, rfl⟩ h8 (c_X12_worthOfRow _ _ _ _) (by decide) (by decide) rfl (Nat.le_of_ble_eq_true rfl) (fun r20 _ => ?_)
        refine rhF.iload_n (pc := 68) dX12_richest_68 2 rfl ?_
        refine rhF.icmp_gt (pc := 69) 75 dX12_richest_69 (by decide) (fun h21 => ?_) (fun h21 => ?_)
        · refine rhF.sub [0, 3] rfl ?_
          exact (b_X12_richest_75 (b_X12_richest_88 ih)) _ _ _
        · refine rhF.goto (pc := 72) 88 dX12_richest_72 (by decide) ?_
          exact (b_X12_richest_88 ih) _ _ _ _ _
    · refine rhF.sub [0, 1, 2] rfl ?_
      exact hk94 _ _ _ _
set_option maxHeartbeats 4000000 in
set_option maxRecDepth 100000 in
theorem b_X12_richest_94 {E : rhE} {Γ : rhG} : ∀ (M : rhM) (v0 : Nat) (v2 : Int32) (v3 : Int32), rhF E 11 5 yX12_richest cX12_richest (some .int) Γ (rhe1I Γ) (f_X12_richest_94 Γ M v0 v2 v3) 94 [(0, rhR v0), (2, rhI v2), (3, rhI v3)] [] Γ M := by
  intro M v0 v2 v3
  rw [f_X12_richest_94]
  refine rhF.aload_n (pc := 94) dX12_richest_94 0 rfl ?_
  refine rhF.iload_n (pc := 95) dX12_richest_95 1 rfl ?_
  refine rhF.ck (fun h22 => ?_)
  refine rhF.callV (pc := 96) (ci := 12) (embc := rhe1U _) [rhI _] dX12_richest_96 ml_X12_521 mv_X12_layWay ⟨_, rfl, rfl⟩ h22 (c_X12_layWay _ _ _ _ _) (by decide) (by decide) rfl (Nat.le_of_ble_eq_true rfl) (fun r23 _ => ?_)
  refine rhF.iload_n (pc := 99) dX12_richest_99 2 rfl ?_
  exact rhF.zret (pc := 100) dX12_richest_100 rfl rfl rfl
set_option maxHeartbeats 4000000 in
set_option maxRecDepth 100000 in
theorem b_X12_richest {E : rhE} {Γ : rhG} : ∀ (M : rhM) (v0 : Nat) (v1 : Int32), rhF E 11 5 yX12_richest cX12_richest (some .int) Γ (rhe1I Γ) (f_X12_richest Γ M v0 v1) 0 [(0, rhR v0), (1, rhI v1)] [] Γ M := by
  intro M v0 v1
  rw [f_X12_richest]
  refine rhF.aload_n (pc := 0) dX12_richest_0 0 rfl ?_
  refine rhF.iconst (pc := 1) (v := 0) dX12_richest_1 (by decide) ?_
  refine rhF.ck (fun h1 => ?_)
  refine rhF.puti (pc := 2) dX12_richest_2 fl_X12_342 h1 (fun q hq => by cases hq; exact Or.inl rfl) ⟨rfl, rfl⟩ (fun _ => rfl) ?_
  refine rhF.iload_n (pc := 5) dX12_richest_5 1 rfl ?_
  refine rhF.iconst (pc := 6) (v := 0) dX12_richest_6 (by decide) ?_
  refine rhF.bipush (pc := 7) (v := 30) dX12_richest_7 (by decide) ?_
  refine rhF.callS (pc := 9) (embc := rhe0I _ _) [rhI _, rhI _, rhI _] dX12_richest_9 ml_X12_415 ms_X12_isIn (c_X12_isIn _ _ _ _ _ _) (by decide) (by decide) rfl (Nat.le_of_ble_eq_true rfl) (fun r3 _ => ?_)
  refine rhF.if_eq (pc := 12) 22 dX12_richest_12 (by decide) (fun h4 => ?_) (fun h4 => ?_)
  · refine rhF.ldcw (pc := 22) dX12_richest_22 k_X12_470 ?_
    exact rhF.zret (pc := 25) dX12_richest_25 rfl rfl rfl
  · refine rhF.aload_n (pc := 15) dX12_richest_15 0 rfl ?_
    refine rhF.callV (pc := 16) (ci := 12) (embc := rhe0I _ _) [] dX12_richest_16 ml_X12_515 mv_X12_isMany ⟨_, rfl, rfl⟩ h1 (c_X12_isMany _ _ _ _) (by decide) (by decide) rfl (Nat.le_of_ble_eq_true rfl) (fun r5 _ => ?_)
    refine rhF.if_eq (pc := 19) 26 dX12_richest_19 (by decide) (fun h6 => ?_) (fun h6 => ?_)
    · refine rhF.aload_n (pc := 26) dX12_richest_26 0 rfl ?_
      refine rhF.iconst (pc := 27) (v := 2) dX12_richest_27 (by decide) ?_
      refine rhF.iload_n (pc := 28) dX12_richest_28 1 rfl ?_
      refine rhF.callV (pc := 29) (ci := 12) (embc := rhe1I _) [rhI _, rhI _] dX12_richest_29 ml_X12_518 mv_X12_search ⟨_, rfl, rfl⟩ h1 (c_X12_search _ _ _ _ _ _) (by decide) (by decide) rfl (Nat.le_of_ble_eq_true rfl) (fun r7 _ => ?_)
      refine rhF.pop (pc := 32) dX12_richest_32 ?_
      refine rhF.iconst (pc := 33) (v := (-1)) dX12_richest_33 (by decide) ?_
      refine rhF.istore_n (pc := 34) (L' := [(2, rhI _), (0, rhR _), (1, rhI _)]) dX12_richest_34 (by decide) rfl ?_
      refine rhF.iconst (pc := 35) (v := 0) dX12_richest_35 (by decide) ?_
      refine rhF.istore_n (pc := 36) (L' := [(3, rhI _), (2, rhI _), (0, rhR _), (1, rhI _)]) dX12_richest_36 (by decide) rfl ?_
      refine rhF.iconst (pc := 37) (v := 0) dX12_richest_37 (by decide) ?_
      refine rhF.istore (pc := 38) (L' := [(4, rhI _), (3, rhI _), (2, rhI _), (0, rhR _), (1, rhI _)]) dX12_richest_38 (by decide) rfl ?_
      refine rhF.sub [3, 2, 1, 0] rfl ?_
      exact (b_X12_richest_40 (b_X12_richest_94) rhFU) _ _ _ _ _
    · refine rhF.ldcw (pc := 22) dX12_richest_22 k_X12_470 ?_
      exact rhF.zret (pc := 25) dX12_richest_25 rfl rfl rfl
theorem c_X12_richest (E : rhE) (Γ : rhG) (M : rhM) (v0 : Nat) (v1 : Int32) : ∀ a, f_X12_richest Γ M v0 v1 = some a → rhC E 11 yX12_richest cX12_richest 5 (some .int) [rhR v0, rhI v1] Γ M ((rhe1I Γ) a) := rhF.met (by decide +kernel) (Nat.le_of_ble_eq_true rfl) (b_X12_richest M v0 v1)
def f_X12_room (Γ : rhG) (M : rhM) (v0 : Nat) (v1 : Int32) : Option (Int32 × rhM) :=
  rhck (Γ.2.2.1 v0 = 13) <|
  (f_X12_isRail Γ M v0 v1).bind fun r2 =>
  if r2 = 0 then
    (some (((-1), M)))
  else
    (f_X12_layNow Γ M v0).bind fun r4 =>
    (f_X12_roomOn Γ r4 v0 v1).bind fun r5 =>
    some ((r5, r4))
set_option maxHeartbeats 4000000 in
set_option maxRecDepth 100000 in
theorem b_X12_room {E : rhE} {Γ : rhG} : ∀ (M : rhM) (v0 : Nat) (v1 : Int32), rhF E 6 2 yX12_room cX12_room (some .int) Γ (rhe1I Γ) (f_X12_room Γ M v0 v1) 0 [(0, rhR v0), (1, rhI v1)] [] Γ M := by
  intro M v0 v1
  rw [f_X12_room]
  refine rhF.aload_n (pc := 0) dX12_room_0 0 rfl ?_
  refine rhF.iload_n (pc := 1) dX12_room_1 1 rfl ?_
  refine rhF.ck (fun h1 => ?_)
  refine rhF.callV (pc := 2) (ci := 12) (embc := rhe0I _ _) [rhI _] dX12_room_2 ml_X12_428 mv_X12_isRail ⟨_, rfl, rfl⟩ h1 (c_X12_isRail _ _ _ _ _) (by decide) (by decide) rfl (Nat.le_of_ble_eq_true rfl) (fun r2 _ => ?_)
  refine rhF.if_ne (pc := 5) 10 dX12_room_5 (by decide) (fun h3 => ?_) (fun h3 => ?_)
  · refine rhF.iconst (pc := 8) (v := (-1)) dX12_room_8 (by decide) ?_
    exact rhF.zret (pc := 9) dX12_room_9 rfl rfl rfl
  · refine rhF.aload_n (pc := 10) dX12_room_10 0 rfl ?_
    refine rhF.callV (pc := 11) (ci := 12) (embc := rhe1U _) [] dX12_room_11 ml_X12_467 mv_X12_layNow ⟨_, rfl, rfl⟩ h1 (c_X12_layNow _ _ _ _) (by decide) (by decide) rfl (Nat.le_of_ble_eq_true rfl) (fun r4 _ => ?_)
    refine rhF.aload_n (pc := 14) dX12_room_14 0 rfl ?_
    refine rhF.iload_n (pc := 15) dX12_room_15 1 rfl ?_
    refine rhF.callV (pc := 16) (ci := 12) (embc := rhe0I _ _) [rhI _] dX12_room_16 ml_X12_435 mv_X12_roomOn ⟨_, rfl, rfl⟩ h1 (c_X12_roomOn _ _ _ _ _) (by decide) (by decide) rfl (Nat.le_of_ble_eq_true rfl) (fun r5 _ => ?_)
    exact rhF.zret (pc := 19) dX12_room_19 rfl rfl rfl
theorem c_X12_room (E : rhE) (Γ : rhG) (M : rhM) (v0 : Nat) (v1 : Int32) : ∀ a, f_X12_room Γ M v0 v1 = some a → rhC E 6 yX12_room cX12_room 2 (some .int) [rhR v0, rhI v1] Γ M ((rhe1I Γ) a) := rhF.met (by decide +kernel) (Nat.le_of_ble_eq_true rfl) (b_X12_room M v0 v1)
def f_X12_sight (Γ : rhG) (M : rhM) (v0 : Nat) (v1 : Int32) (v2 : Int32) (v3 : Int32) (v4 : Int32) : Option (Int32 × rhM) :=
  (f_X12_isIn Γ M v1 (0 : Int32) (3 : Int32)).bind fun r1 =>
  if r1 = 0 then
    (some (((-1), M)))
  else
    rhck (Γ.2.2.1 v0 = 13) <|
    (f_X12_isHouse Γ M v0 v2).bind fun r4 =>
    if r4 = 0 then
      (some (((-1), M)))
    else
      (f_X12_isRail Γ M v0 v3).bind fun r6 =>
      if r6 = 0 then
        (some (((-1), M)))
      else
        if (M.1 v0 82) = 20 then
          (some (((-1), M)))
        else
          rhck (Γ.2.2.1 (M.2.2 v0 72) = 15) <|
          rhck (0 ≤ (M.1 v0 82).toInt ∧ (M.1 v0 82).toInt < (Γ.2.2.2 (M.2.2 v0 72) : Nat)) <|
          let M11 := rhsi M (M.2.2 v0 72) (M.1 v0 82 : Int32).toNatClampNeg v1
          rhck (Γ.2.2.1 (M.2.2 v0 73) = 15) <|
          rhck (0 ≤ (M11.1 v0 82).toInt ∧ (M11.1 v0 82).toInt < (Γ.2.2.2 (M.2.2 v0 73) : Nat)) <|
          let M14 := rhsi M11 (M.2.2 v0 73) (M11.1 v0 82 : Int32).toNatClampNeg v2
          rhck (Γ.2.2.1 (M.2.2 v0 74) = 15) <|
          rhck (0 ≤ (M14.1 v0 82).toInt ∧ (M14.1 v0 82).toInt < (Γ.2.2.2 (M.2.2 v0 74) : Nat)) <|
          let M17 := rhsi M14 (M.2.2 v0 74) (M14.1 v0 82 : Int32).toNatClampNeg v3
          rhck (Γ.2.2.1 (M.2.2 v0 81) = 17) <|
          rhck (0 ≤ (M17.1 v0 82).toInt ∧ (M17.1 v0 82).toInt < (Γ.2.2.2 (M.2.2 v0 81) : Nat)) <|
          let M20 := rhsi M17 (M.2.2 v0 81) (M17.1 v0 82 : Int32).toNatClampNeg (vp_nar .boolean v4)
          rhck (Γ.2.2.1 (M.2.2 v0 75) = 15) <|
          rhck (0 ≤ (M20.1 v0 82).toInt ∧ (M20.1 v0 82).toInt < (Γ.2.2.2 (M.2.2 v0 75) : Nat)) <|
          let M23 := rhsi M20 (M.2.2 v0 75) (M20.1 v0 82 : Int32).toNatClampNeg (M20.1 v0 83)
          rhck (Γ.2.2.1 (M.2.2 v0 76) = 15) <|
          rhck (0 ≤ (M23.1 v0 82).toInt ∧ (M23.1 v0 82).toInt < (Γ.2.2.2 (M.2.2 v0 76) : Nat)) <|
          let M26 := rhsi M23 (M.2.2 v0 76) (M23.1 v0 82 : Int32).toNatClampNeg ((-1))
          let M27 := rhsi M26 v0 82 ((M26.1 v0 82) + 1)
          some (((M27.1 v0 82) - 1, M27))
set_option maxHeartbeats 4000000 in
set_option maxRecDepth 100000 in
theorem b_X12_sight {E : rhE} {Γ : rhG} : ∀ (M : rhM) (v0 : Nat) (v1 : Int32) (v2 : Int32) (v3 : Int32) (v4 : Int32), rhF E 6 5 yX12_sight cX12_sight (some .int) Γ (rhe1I Γ) (f_X12_sight Γ M v0 v1 v2 v3 v4) 0 [(0, rhR v0), (1, rhI v1), (2, rhI v2), (3, rhI v3), (4, rhI v4)] [] Γ M := by
  intro M v0 v1 v2 v3 v4
  rw [f_X12_sight]
  refine rhF.iload_n (pc := 0) dX12_sight_0 1 rfl ?_
  refine rhF.iconst (pc := 1) (v := 0) dX12_sight_1 (by decide) ?_
  refine rhF.iconst (pc := 2) (v := 3) dX12_sight_2 (by decide) ?_
  refine rhF.callS (pc := 3) (embc := rhe0I _ _) [rhI _, rhI _, rhI _] dX12_sight_3 ml_X12_415 ms_X12_isIn (c_X12_isIn _ _ _ _ _ _) (by decide) (by decide) rfl (Nat.le_of_ble_eq_true rfl) (fun r1 _ => ?_)
  refine rhF.if_eq (pc := 6) 34 dX12_sight_6 (by decide) (fun h2 => ?_) (fun h2 => ?_)
  · refine rhF.iconst (pc := 34) (v := (-1)) dX12_sight_34 (by decide) ?_
    exact rhF.zret (pc := 35) dX12_sight_35 rfl rfl rfl
  · refine rhF.aload_n (pc := 9) dX12_sight_9 0 rfl ?_
    refine rhF.iload_n (pc := 10) dX12_sight_10 2 rfl ?_
    refine rhF.ck (fun h3 => ?_)
    refine rhF.callV (pc := 11) (ci := 12) (embc := rhe0I _ _) [rhI _] dX12_sight_11 ml_X12_464 mv_X12_isHouse ⟨_, rfl, rfl⟩ h3 (c_X12_isHouse _ _ _ _ _) (by decide) (by decide) rfl (Nat.le_of_ble_eq_true rfl) (fun r4 _ => ?_)
    refine rhF.if_eq (pc := 14) 34 dX12_sight_14 (by decide) (fun h5 => ?_) (fun h5 => ?_)
    · refine rhF.iconst (pc := 34) (v := (-1)) dX12_sight_34 (by decide) ?_
      exact rhF.zret (pc := 35) dX12_sight_35 rfl rfl rfl
    · refine rhF.aload_n (pc := 17) dX12_sight_17 0 rfl ?_
      refine rhF.iload_n (pc := 18) dX12_sight_18 3 rfl ?_
      refine rhF.callV (pc := 19) (ci := 12) (embc := rhe0I _ _) [rhI _] dX12_sight_19 ml_X12_428 mv_X12_isRail ⟨_, rfl, rfl⟩ h3 (c_X12_isRail _ _ _ _ _) (by decide) (by decide) rfl (Nat.le_of_ble_eq_true rfl) (fun r6 _ => ?_)
      refine rhF.if_eq (pc := 22) 34 dX12_sight_22 (by decide) (fun h7 => ?_) (fun h7 => ?_)
      · refine rhF.iconst (pc := 34) (v := (-1)) dX12_sight_34 (by decide) ?_
        exact rhF.zret (pc := 35) dX12_sight_35 rfl rfl rfl
      · refine rhF.aload_n (pc := 25) dX12_sight_25 0 rfl ?_
        refine rhF.get (pc := 26) (rhI _) dX12_sight_26 fl_X12_333 h3 rfl ?_
        refine rhF.bipush (pc := 29) (v := 20) dX12_sight_29 (by decide) ?_
        refine rhF.icmp_ne (pc := 31) 36 dX12_sight_31 (by decide) (fun h8 => ?_) (fun h8 => ?_)
        · refine rhF.iconst (pc := 34) (v := (-1)) dX12_sight_34 (by decide) ?_
          exact rhF.zret (pc := 35) dX12_sight_35 rfl rfl rfl
        · refine rhF.aload_n (pc := 36) dX12_sight_36 0 rfl ?_
          refine rhF.get (pc := 37) (rhR _) dX12_sight_37 fl_X12_160 h3 rfl ?_
          refine rhF.aload_n (pc := 40) dX12_sight_40 0 rfl ?_
          refine rhF.get (pc := 41) (rhI _) dX12_sight_41 fl_X12_333 h3 rfl ?_
          refine rhF.iload_n (pc := 44) dX12_sight_44 1 rfl ?_
          refine rhF.ck (fun h9 => ?_)
          refine rhF.ck (fun h10 => ?_)
          refine rhF.iast (pc := 45) dX12_sight_45 h9 h10 ?_
          refine rhF.aload_n (pc := 46) dX12_sight_46 0 rfl ?_
          refine rhF.get (pc := 47) (rhR _) dX12_sight_47 fl_X12_163 h3 rfl ?_
          refine rhF.aload_n (pc := 50) dX12_sight_50 0 rfl ?_
          refine rhF.get (pc := 51) (rhI _) dX12_sight_51 fl_X12_333 h3 rfl ?_
          refine rhF.iload_n (pc := 54) dX12_sight_54 2 rfl ?_
          refine rhF.ck (fun h12 => ?_)
          refine rhF.ck (fun h13 => ?_)
          refine rhF.iast (pc := 55) dX12_sight_55 h12 h13 ?_
          refine rhF.aload_n (pc := 56) dX12_sight_56 0 rfl ?_
          refine rhF.get (pc := 57) (rhR _) dX12_sight_57 fl_X12_166 h3 rfl ?_
          refine rhF.aload_n (pc := 60) dX12_sight_60 0 rfl ?_
          refine rhF.get (pc := 61) (rhI _) dX12_sight_61 fl_X12_333 h3 rfl ?_
          refine rhF.iload_n (pc := 64) dX12_sight_64 3 rfl ?_
          refine rhF.ck (fun h15 => ?_)
          refine rhF.ck (fun h16 => ?_)
          refine rhF.iast (pc := 65) dX12_sight_65 h15 h16 ?_
          refine rhF.aload_n (pc := 66) dX12_sight_66 0 rfl ?_
          refine rhF.get (pc := 67) (rhR _) dX12_sight_67 fl_X12_187 h3 rfl ?_
          refine rhF.aload_n (pc := 70) dX12_sight_70 0 rfl ?_
          refine rhF.get (pc := 71) (rhI _) dX12_sight_71 fl_X12_333 h3 rfl ?_
          refine rhF.iload (pc := 74) dX12_sight_74 4 rfl ?_
          refine rhF.ck (fun h18 => ?_)
          refine rhF.ck (fun h19 => ?_)
          refine rhF.zast (pc := 76) dX12_sight_76 h18 h19 ?_
          refine rhF.aload_n (pc := 77) dX12_sight_77 0 rfl ?_
          refine rhF.get (pc := 78) (rhR _) dX12_sight_78 fl_X12_169 h3 rfl ?_
          refine rhF.aload_n (pc := 81) dX12_sight_81 0 rfl ?_
          refine rhF.get (pc := 82) (rhI _) dX12_sight_82 fl_X12_333 h3 rfl ?_
          refine rhF.aload_n (pc := 85) dX12_sight_85 0 rfl ?_
          refine rhF.get (pc := 86) (rhI _) dX12_sight_86 fl_X12_555 h3 rfl ?_
          refine rhF.ck (fun h21 => ?_)
          refine rhF.ck (fun h22 => ?_)
          refine rhF.iast (pc := 89) dX12_sight_89 h21 h22 ?_
          refine rhF.aload_n (pc := 90) dX12_sight_90 0 rfl ?_
          refine rhF.get (pc := 91) (rhR _) dX12_sight_91 fl_X12_172 h3 rfl ?_
          refine rhF.aload_n (pc := 94) dX12_sight_94 0 rfl ?_
          refine rhF.get (pc := 95) (rhI _) dX12_sight_95 fl_X12_333 h3 rfl ?_
          refine rhF.iconst (pc := 98) (v := (-1)) dX12_sight_98 (by decide) ?_
          refine rhF.ck (fun h24 => ?_)
          refine rhF.ck (fun h25 => ?_)
          refine rhF.iast (pc := 99) dX12_sight_99 h24 h25 ?_
          refine rhF.aload_n (pc := 100) dX12_sight_100 0 rfl ?_
          refine rhF.dupr (pc := 101) dX12_sight_101 ?_
          refine rhF.get (pc := 102) (rhI _) dX12_sight_102 fl_X12_333 h3 rfl ?_
          refine rhF.iconst (pc := 105) (v := 1) dX12_sight_105 (by decide) ?_
          refine rhF.iadd (pc := 106) dX12_sight_106 ?_
          refine rhF.puti (pc := 107) dX12_sight_107 fl_X12_333 h3 (fun q hq => by cases hq; exact Or.inl rfl) ⟨rfl, rfl⟩ (fun _ => rfl) ?_
          refine rhF.aload_n (pc := 110) dX12_sight_110 0 rfl ?_
          refine rhF.get (pc := 111) (rhI _) dX12_sight_111 fl_X12_333 h3 rfl ?_
          refine rhF.iconst (pc := 114) (v := 1) dX12_sight_114 (by decide) ?_
          refine rhF.isub (pc := 115) dX12_sight_115 ?_
          exact rhF.zret (pc := 116) dX12_sight_116 rfl rfl rfl
theorem c_X12_sight (E : rhE) (Γ : rhG) (M : rhM) (v0 : Nat) (v1 : Int32) (v2 : Int32) (v3 : Int32) (v4 : Int32) : ∀ a, f_X12_sight Γ M v0 v1 v2 v3 v4 = some a → rhC E 6 yX12_sight cX12_sight 5 (some .int) [rhR v0, rhI v1, rhI v2, rhI v3, rhI v4] Γ M ((rhe1I Γ) a) := rhF.met (by decide +kernel) (Nat.le_of_ble_eq_true rfl) (b_X12_sight M v0 v1 v2 v3 v4)
def f_X12_spare_101 (k36 : rhM → Nat → Int32 → Int32 → Int32 → Int32 → Int32 → Option (Int32 × rhM)) (Γ : rhG) (M : rhM) (v0 : Nat) (v1 : Int32) (v2 : Int32) (v3 : Int32) (v4 : Int32) (v5 : Int32) : Option (Int32 × rhM) :=
  let x16 : Int32 := v5 + 1
  k36 M v0 v1 v2 v3 v4 x16
def f_X12_spare_89 (k101 : rhM → Nat → Int32 → Int32 → Int32 → Int32 → Int32 → Option (Int32 × rhM)) (Γ : rhG) (M : rhM) (v0 : Nat) (v1 : Int32) (v2 : Int32) (v5 : Int32) (v6 : Int32) : Option (Int32 × rhM) :=
  rhck (Γ.2.2.1 v0 = 13) <|
  rhck (Γ.2.2.1 (M.2.2 v0 56) = 15) <|
  rhck (0 ≤ (v6).toInt ∧ (v6).toInt < (Γ.2.2.2 (M.2.2 v0 56) : Nat)) <|
  let x21 := M.1 (M.2.2 v0 56) v6.toNatClampNeg
  k101 M v0 v1 v2 v5 x21 v5
def f_X12_spare_36 (k107 : rhM → Nat → Int32 → Int32 → Int32 → Option (Int32 × rhM)) (Γ : rhG) : Nat → rhM → Nat → Int32 → Int32 → Int32 → Int32 → Int32 → Option (Int32 × rhM)
  | 0, _, _, _, _, _, _, _ => none
  | n + 1, M, v0, v1, v2, v3, v4, v5 =>
    rhck (Γ.2.2.1 v0 = 13) <|
    (f_X12_railMany Γ M v0).bind fun r9 =>
    if v5 < r9 then
      (let M11 := rhsi M v0 44 v5
      let M12 := rhsi M11 v0 45 v1
      (f_X12_search Γ M12 v0 (0 : Int32) (246960 : Int32)).bind fun r13 =>
      let x14 := r13.1
      if x14 < 0 then
        (f_X12_spare_101 (f_X12_spare_36 k107 Γ n) Γ r13.2 v0 v1 v2 v3 v4 v5)
      else
        if v3 < 0 then
          (f_X12_spare_89 (f_X12_spare_101 (f_X12_spare_36 k107 Γ n) Γ) Γ r13.2 v0 v1 v2 v5 x14)
        else
          rhck (Γ.2.2.1 (r13.2.2.2 v0 56) = 15) <|
          rhck (0 ≤ (x14).toInt ∧ (x14).toInt < (Γ.2.2.2 (r13.2.2.2 v0 56) : Nat)) <|
          if (r13.2.1 (r13.2.2.2 v0 56) x14.toNatClampNeg) < v4 then
            (f_X12_spare_89 (f_X12_spare_101 (f_X12_spare_36 k107 Γ n) Γ) Γ r13.2 v0 v1 v2 v5 x14)
          else
            f_X12_spare_101 (f_X12_spare_36 k107 Γ n) Γ r13.2 v0 v1 v2 v3 v4 v5)
    else
      k107 M v0 v2 v3 v4
def f_X12_spare_107 (Γ : rhG) (M : rhM) (v0 : Nat) (v2 : Int32) (v3 : Int32) (v4 : Int32) : Option (Int32 × rhM) :=
  rhck (Γ.2.2.1 v0 = 13) <|
  let M26 := rhsi M v0 44 ((-1))
  if v3 < 0 then
    (some ((v3, M26)))
  else
    if v2 = 0 then
      (some ((v3, M26)))
    else
      some ((v4, M26))
def f_X12_spare (Γ : rhG) (M : rhM) (v0 : Nat) (v1 : Int32) (v2 : Int32) : Option (Int32 × rhM) :=
  (f_X12_isIn Γ M v1 (1 : Int32) (99 : Int32)).bind fun r1 =>
  if r1 = 0 then
    (some (((-1), M)))
  else
    (f_X12_isIn Γ M v2 (0 : Int32) (1 : Int32)).bind fun r3 =>
    if r3 = 0 then
      (some (((-1), M)))
    else
      rhck (Γ.2.2.1 v0 = 13) <|
      (f_X12_isMany Γ M v0).bind fun r6 =>
      if r6 = 0 then
        (f_X12_spare_36 (f_X12_spare_107 Γ) Γ rhFU M v0 v1 v2 ((-1)) 0 0)
      else
        some (((-1), M))
set_option maxHeartbeats 4000000 in
set_option maxRecDepth 100000 in
theorem b_X12_spare_101 {E : rhE} {Γ : rhG} {k36 : rhM → Nat → Int32 → Int32 → Int32 → Int32 → Int32 → Option (Int32 × rhM)} (hk36 : ∀ (M : rhM) (v0 : Nat) (v1 : Int32) (v2 : Int32) (v3 : Int32) (v4 : Int32) (v5 : Int32), rhF E 11 7 yX12_spare cX12_spare (some .int) Γ (rhe1I Γ) (k36 M v0 v1 v2 v3 v4 v5) 36 [(0, rhR v0), (1, rhI v1), (2, rhI v2), (3, rhI v3), (4, rhI v4), (5, rhI v5)] [] Γ M) : ∀ (M : rhM) (v0 : Nat) (v1 : Int32) (v2 : Int32) (v3 : Int32) (v4 : Int32) (v5 : Int32), rhF E 11 7 yX12_spare cX12_spare (some .int) Γ (rhe1I Γ) (f_X12_spare_101 k36 Γ M v0 v1 v2 v3 v4 v5) 101 [(0, rhR v0), (1, rhI v1), (2, rhI v2), (3, rhI v3), (4, rhI v4), (5, rhI v5)] [] Γ M := by
  intro M v0 v1 v2 v3 v4 v5
  rw [f_X12_spare_101]
  refine rhF.iinc (pc := 101) (L' := [(5, rhI _), (0, rhR _), (1, rhI _), (2, rhI _), (3, rhI _), (4, rhI _)]) dX12_spare_101 5 rfl rfl (by decide) rfl ?_
  refine rhF.goto (pc := 104) 36 dX12_spare_104 (by decide) ?_
  refine rhF.sub [1, 2, 3, 4, 5, 0] rfl ?_
  exact hk36 _ _ _ _ _ _ _
set_option maxHeartbeats 4000000 in
set_option maxRecDepth 100000 in
theorem b_X12_spare_89 {E : rhE} {Γ : rhG} {k101 : rhM → Nat → Int32 → Int32 → Int32 → Int32 → Int32 → Option (Int32 × rhM)} (hk101 : ∀ (M : rhM) (v0 : Nat) (v1 : Int32) (v2 : Int32) (v3 : Int32) (v4 : Int32) (v5 : Int32), rhF E 11 7 yX12_spare cX12_spare (some .int) Γ (rhe1I Γ) (k101 M v0 v1 v2 v3 v4 v5) 101 [(0, rhR v0), (1, rhI v1), (2, rhI v2), (3, rhI v3), (4, rhI v4), (5, rhI v5)] [] Γ M) : ∀ (M : rhM) (v0 : Nat) (v1 : Int32) (v2 : Int32) (v5 : Int32) (v6 : Int32), rhF E 11 7 yX12_spare cX12_spare (some .int) Γ (rhe1I Γ) (f_X12_spare_89 k101 Γ M v0 v1 v2 v5 v6) 89 [(0, rhR v0), (1, rhI v1), (2, rhI v2), (5, rhI v5), (6, rhI v6)] [] Γ M := by
  intro M v0 v1 v2 v5 v6
  rw [f_X12_spare_89]
  refine rhF.iload (pc := 89) dX12_spare_89 3 rfl ?_
  refine rhF.istore_n (pc := 91) (L' := [(3, rhI _), (0, rhR _), (1, rhI _), (2, rhI _), (5, rhI _), (6, rhI _)]) dX12_spare_91 (by decide) rfl ?_
  refine rhF.aload_n (pc := 92) dX12_spare_92 1 rfl ?_
  refine rhF.ck (fun h18 => ?_)
  refine rhF.get (pc := 93) (rhR _) dX12_spare_93 fl_X12_129 h18 rfl ?_
  refine rhF.iload (pc := 96) dX12_spare_96 5 rfl ?_
  refine rhF.ck (fun h19 => ?_)
  refine rhF.ck (fun h20 => ?_)
  refine rhF.iald (pc := 98) dX12_spare_98 h19 h20 ?_
  refine rhF.istore (pc := 99) (L' := [(4, rhI _), (3, rhI _), (0, rhR _), (1, rhI _), (2, rhI _), (5, rhI _), (6, rhI _)]) dX12_spare_99 (by decide) rfl ?_
  refine rhF.sub [2, 3, 4, 1, 0, 5] rfl ?_
  exact hk101 _ _ _ _ _ _ _
set_option maxHeartbeats 4000000 in
set_option maxRecDepth 100000 in
theorem b_X12_spare_36 {E : rhE} {Γ : rhG} {k107 : rhM → Nat → Int32 → Int32 → Int32 → Option (Int32 × rhM)} (hk107 : ∀ (M : rhM) (v0 : Nat) (v2 : Int32) (v3 : Int32) (v4 : Int32), rhF E 11 7 yX12_spare cX12_spare (some .int) Γ (rhe1I Γ) (k107 M v0 v2 v3 v4) 107 [(0, rhR v0), (2, rhI v2), (3, rhI v3), (4, rhI v4)] [] Γ M) : ∀ (n : Nat) (M : rhM) (v0 : Nat) (v1 : Int32) (v2 : Int32) (v3 : Int32) (v4 : Int32) (v5 : Int32), rhF E 11 7 yX12_spare cX12_spare (some .int) Γ (rhe1I Γ) (f_X12_spare_36 k107 Γ n M v0 v1 v2 v3 v4 v5) 36 [(0, rhR v0), (1, rhI v1), (2, rhI v2), (3, rhI v3), (4, rhI v4), (5, rhI v5)] [] Γ M := by
  intro n
  induction n with
  | zero => intro M v0 v1 v2 v3 v4 v5; rw [f_X12_spare_36]; exact rhF.nope
  | succ n ih =>
    intro M v0 v1 v2 v3 v4 v5
    rw [f_X12_spare_36]
    refine rhF.iload (pc := 36) dX12_spare_36 5 rfl ?_
    refine rhF.aload_n (pc := 38) dX12_spare_38 0 rfl ?_
    refine rhF.ck (fun h8 => ?_)
    refine rhF.callV (pc := 39) (ci := 12) (embc := rhe0I _ _) [] dX12_spare_39 ml_X12_412 mv_X12_railMany ⟨_, rfl, rfl⟩ h8 (c_X12_railMany _ _ _ _) (by decide) (by decide) rfl (Nat.le_of_ble_eq_true rfl) (fun r9 _ => ?_)
    refine rhF.icmp_ge (pc := 42) 107 dX12_spare_42 (by decide) (fun h10 => ?_) (fun h10 => ?_)
    · refine rhF.aload_n (pc := 45) dX12_spare_45 0 rfl ?_
      refine rhF.iload (pc := 46) dX12_spare_46 5 rfl ?_
      refine rhF.puti (pc := 48) dX12_spare_48 fl_X12_107 h8 (fun q hq => by cases hq; exact Or.inl rfl) ⟨rfl, rfl⟩ (fun _ => rfl) ?_
      refine rhF.aload_n (pc := 51) dX12_spare_51 0 rfl ?_
      refine rhF.iload_n (pc := 52) dX12_spare_52 1 rfl ?_
      refine rhF.puti (pc := 53) dX12_spare_53 fl_X12_422 h8 (fun q hq => by cases hq; exact Or.inl rfl) ⟨rfl, rfl⟩ (fun _ => rfl) ?_
      refine rhF.aload_n (pc := 56) dX12_spare_56 0 rfl ?_
      refine rhF.iconst (pc := 57) (v := 0) dX12_spare_57 (by decide) ?_
      refine rhF.ldc (pc := 58) dX12_spare_58 k_X12_122 ?_
      refine rhF.callV (pc := 60) (ci := 12) (embc := rhe1I _) [rhI _, rhI _] dX12_spare_60 ml_X12_518 mv_X12_search ⟨_, rfl, rfl⟩ h8 (c_X12_search _ _ _ _ _ _) (by decide) (by decide) rfl (Nat.le_of_ble_eq_true rfl) (fun r13 _ => ?_)
      refine rhF.istore (pc := 63) (L' := [(6, rhI _), (0, rhR _), (1, rhI _), (2, rhI _), (3, rhI _), (4, rhI _), (5, rhI _)]) dX12_spare_63 (by decide) rfl ?_
      refine rhF.iload (pc := 65) dX12_spare_65 0 rfl ?_
      refine rhF.if_lt (pc := 67) 101 dX12_spare_67 (by decide) (fun h15 => ?_) (fun h15 => ?_)
      · refine rhF.sub [1, 2, 3, 4, 5, 6] rfl ?_
        exact (b_X12_spare_101 ih) _ _ _ _ _ _ _
      · refine rhF.iload_n (pc := 70) dX12_spare_70 4 rfl ?_
        refine rhF.if_lt (pc := 71) 89 dX12_spare_71 (by decide) (fun h17 => ?_) (fun h17 => ?_)
        · refine rhF.sub [1, 2, 3, 6, 0] rfl ?_
          exact (b_X12_spare_89 (b_X12_spare_101 ih)) _ _ _ _ _ _
        · refine rhF.aload_n (pc := 74) dX12_spare_74 1 rfl ?_
          refine rhF.get (pc := 75) (rhR _) dX12_spare_75 fl_X12_129 h8 rfl ?_
          refine rhF.iload (pc := 78) dX12_spare_78 0 rfl ?_
          refine rhF.ck (fun h22 => ?_)
          refine rhF.ck (fun h23 => ?_)
          refine rhF.iald (pc := 80) dX12_spare_80 h22 h23 ?_
          refine rhF.iload (pc := 81) dX12_spare_81 5 rfl ?_
          refine rhF.icmp_lt (pc := 83) 89 dX12_spare_83 (by decide) (fun h24 => ?_) (fun h24 => ?_)
          · refine rhF.sub [1, 2, 3, 6, 0] rfl ?_
            exact (b_X12_spare_89 (b_X12_spare_101 ih)) _ _ _ _ _ _
          · refine rhF.goto (pc := 86) 101 dX12_spare_86 (by decide) ?_
            refine rhF.sub [1, 2, 3, 4, 5, 6] rfl ?_
            exact (b_X12_spare_101 ih) _ _ _ _ _ _ _
    · refine rhF.sub [0, 2, 3, 4] rfl ?_
      exact hk107 _ _ _ _ _
set_option maxHeartbeats 4000000 in
set_option maxRecDepth 100000 in
theorem b_X12_spare_107 {E : rhE} {Γ : rhG} : ∀ (M : rhM) (v0 : Nat) (v2 : Int32) (v3 : Int32) (v4 : Int32), rhF E 11 7 yX12_spare cX12_spare (some .int) Γ (rhe1I Γ) (f_X12_spare_107 Γ M v0 v2 v3 v4) 107 [(0, rhR v0), (2, rhI v2), (3, rhI v3), (4, rhI v4)] [] Γ M := by
  intro M v0 v2 v3 v4
  rw [f_X12_spare_107]
  refine rhF.aload_n (pc := 107) dX12_spare_107 0 rfl ?_
  refine rhF.iconst (pc := 108) (v := (-1)) dX12_spare_108 (by decide) ?_
  refine rhF.ck (fun h25 => ?_)
  refine rhF.puti (pc := 109) dX12_spare_109 fl_X12_107 h25 (fun q hq => by cases hq; exact Or.inl rfl) ⟨rfl, rfl⟩ (fun _ => rfl) ?_
  refine rhF.iload_n (pc := 112) dX12_spare_112 2 rfl ?_
  refine rhF.if_lt (pc := 113) 120 dX12_spare_113 (by decide) (fun h27 => ?_) (fun h27 => ?_)
  · refine rhF.iload_n (pc := 120) dX12_spare_120 2 rfl ?_
    refine rhF.goto (pc := 121) 126 dX12_spare_121 (by decide) ?_
    exact rhF.zret (pc := 126) dX12_spare_126 rfl rfl rfl
  · refine rhF.iload_n (pc := 116) dX12_spare_116 1 rfl ?_
    refine rhF.if_ne (pc := 117) 124 dX12_spare_117 (by decide) (fun h28 => ?_) (fun h28 => ?_)
    · refine rhF.iload_n (pc := 120) dX12_spare_120 2 rfl ?_
      refine rhF.goto (pc := 121) 126 dX12_spare_121 (by decide) ?_
      exact rhF.zret (pc := 126) dX12_spare_126 rfl rfl rfl
    · refine rhF.iload (pc := 124) dX12_spare_124 3 rfl ?_
      exact rhF.zret (pc := 126) dX12_spare_126 rfl rfl rfl
set_option maxHeartbeats 4000000 in
set_option maxRecDepth 100000 in
theorem b_X12_spare {E : rhE} {Γ : rhG} : ∀ (M : rhM) (v0 : Nat) (v1 : Int32) (v2 : Int32), rhF E 11 7 yX12_spare cX12_spare (some .int) Γ (rhe1I Γ) (f_X12_spare Γ M v0 v1 v2) 0 [(0, rhR v0), (1, rhI v1), (2, rhI v2)] [] Γ M := by
  intro M v0 v1 v2
  rw [f_X12_spare]
  refine rhF.iload_n (pc := 0) dX12_spare_0 1 rfl ?_
  refine rhF.iconst (pc := 1) (v := 1) dX12_spare_1 (by decide) ?_
  refine rhF.bipush (pc := 2) (v := 99) dX12_spare_2 (by decide) ?_
  refine rhF.callS (pc := 4) (embc := rhe0I _ _) [rhI _, rhI _, rhI _] dX12_spare_4 ml_X12_415 ms_X12_isIn (c_X12_isIn _ _ _ _ _ _) (by decide) (by decide) rfl (Nat.le_of_ble_eq_true rfl) (fun r1 _ => ?_)
  refine rhF.if_eq (pc := 7) 26 dX12_spare_7 (by decide) (fun h2 => ?_) (fun h2 => ?_)
  · refine rhF.iconst (pc := 26) (v := (-1)) dX12_spare_26 (by decide) ?_
    exact rhF.zret (pc := 27) dX12_spare_27 rfl rfl rfl
  · refine rhF.iload_n (pc := 10) dX12_spare_10 2 rfl ?_
    refine rhF.iconst (pc := 11) (v := 0) dX12_spare_11 (by decide) ?_
    refine rhF.iconst (pc := 12) (v := 1) dX12_spare_12 (by decide) ?_
    refine rhF.callS (pc := 13) (embc := rhe0I _ _) [rhI _, rhI _, rhI _] dX12_spare_13 ml_X12_415 ms_X12_isIn (c_X12_isIn _ _ _ _ _ _) (by decide) (by decide) rfl (Nat.le_of_ble_eq_true rfl) (fun r3 _ => ?_)
    refine rhF.if_eq (pc := 16) 26 dX12_spare_16 (by decide) (fun h4 => ?_) (fun h4 => ?_)
    · refine rhF.iconst (pc := 26) (v := (-1)) dX12_spare_26 (by decide) ?_
      exact rhF.zret (pc := 27) dX12_spare_27 rfl rfl rfl
    · refine rhF.aload_n (pc := 19) dX12_spare_19 0 rfl ?_
      refine rhF.ck (fun h5 => ?_)
      refine rhF.callV (pc := 20) (ci := 12) (embc := rhe0I _ _) [] dX12_spare_20 ml_X12_515 mv_X12_isMany ⟨_, rfl, rfl⟩ h5 (c_X12_isMany _ _ _ _) (by decide) (by decide) rfl (Nat.le_of_ble_eq_true rfl) (fun r6 _ => ?_)
      refine rhF.if_eq (pc := 23) 28 dX12_spare_23 (by decide) (fun h7 => ?_) (fun h7 => ?_)
      · refine rhF.iconst (pc := 28) (v := (-1)) dX12_spare_28 (by decide) ?_
        refine rhF.istore_n (pc := 29) (L' := [(3, rhI _), (0, rhR _), (1, rhI _), (2, rhI _)]) dX12_spare_29 (by decide) rfl ?_
        refine rhF.iconst (pc := 30) (v := 0) dX12_spare_30 (by decide) ?_
        refine rhF.istore (pc := 31) (L' := [(4, rhI _), (3, rhI _), (0, rhR _), (1, rhI _), (2, rhI _)]) dX12_spare_31 (by decide) rfl ?_
        refine rhF.iconst (pc := 33) (v := 0) dX12_spare_33 (by decide) ?_
        refine rhF.istore (pc := 34) (L' := [(5, rhI _), (4, rhI _), (3, rhI _), (0, rhR _), (1, rhI _), (2, rhI _)]) dX12_spare_34 (by decide) rfl ?_
        refine rhF.sub [3, 4, 5, 2, 1, 0] rfl ?_
        exact (b_X12_spare_36 (b_X12_spare_107) rhFU) _ _ _ _ _ _ _
      · refine rhF.iconst (pc := 26) (v := (-1)) dX12_spare_26 (by decide) ?_
        exact rhF.zret (pc := 27) dX12_spare_27 rfl rfl rfl
theorem c_X12_spare (E : rhE) (Γ : rhG) (M : rhM) (v0 : Nat) (v1 : Int32) (v2 : Int32) : ∀ a, f_X12_spare Γ M v0 v1 v2 = some a → rhC E 11 yX12_spare cX12_spare 7 (some .int) [rhR v0, rhI v1, rhI v2] Γ M ((rhe1I Γ) a) := rhF.met (by decide +kernel) (Nat.le_of_ble_eq_true rfl) (b_X12_spare M v0 v1 v2)
def f_X12_tell (Γ : rhG) (M : rhM) (v0 : Nat) (v1 : Int32) (v2 : Int32) (v3 : Int32) : Option (Int32 × rhM) :=
  rhck (Γ.2.2.1 v0 = 13) <|
  (f_X12_isRail Γ M v0 v1).bind fun r2 =>
  if r2 = 0 then
    (some (((-1), M)))
  else
    (f_X12_isRail Γ M v0 v3).bind fun r4 =>
    if r4 = 0 then
      (some (((-1), M)))
    else
      if v1 = v3 then
        (some (((-1), M)))
      else
        (f_X12_isIn Γ M v2 (1 : Int32) (8 : Int32)).bind fun r7 =>
        if r7 = 0 then
          (some (((-1), M)))
        else
          if (M.1 v0 51) = 12 then
            (some (((-1), M)))
          else
            rhck (Γ.2.2.1 (M.2.2 v0 50) = 15) <|
            rhck (0 ≤ (M.1 v0 51).toInt ∧ (M.1 v0 51).toInt < (Γ.2.2.2 (M.2.2 v0 50) : Nat)) <|
            let M12 := rhsi M (M.2.2 v0 50) (M.1 v0 51 : Int32).toNatClampNeg (((100 * v1) + (10 * v2)) + v3)
            let M13 := rhsi M12 v0 51 ((M12.1 v0 51) + 1)
            some ((M13.1 v0 51, M13))
set_option maxHeartbeats 4000000 in
set_option maxRecDepth 100000 in
theorem b_X12_tell {E : rhE} {Γ : rhG} : ∀ (M : rhM) (v0 : Nat) (v1 : Int32) (v2 : Int32) (v3 : Int32), rhF E 6 4 yX12_tell cX12_tell (some .int) Γ (rhe1I Γ) (f_X12_tell Γ M v0 v1 v2 v3) 0 [(0, rhR v0), (1, rhI v1), (2, rhI v2), (3, rhI v3)] [] Γ M := by
  intro M v0 v1 v2 v3
  rw [f_X12_tell]
  refine rhF.aload_n (pc := 0) dX12_tell_0 0 rfl ?_
  refine rhF.iload_n (pc := 1) dX12_tell_1 1 rfl ?_
  refine rhF.ck (fun h1 => ?_)
  refine rhF.callV (pc := 2) (ci := 12) (embc := rhe0I _ _) [rhI _] dX12_tell_2 ml_X12_428 mv_X12_isRail ⟨_, rfl, rfl⟩ h1 (c_X12_isRail _ _ _ _ _) (by decide) (by decide) rfl (Nat.le_of_ble_eq_true rfl) (fun r2 _ => ?_)
  refine rhF.if_eq (pc := 5) 40 dX12_tell_5 (by decide) (fun h3 => ?_) (fun h3 => ?_)
  · refine rhF.iconst (pc := 40) (v := (-1)) dX12_tell_40 (by decide) ?_
    exact rhF.zret (pc := 41) dX12_tell_41 rfl rfl rfl
  · refine rhF.aload_n (pc := 8) dX12_tell_8 0 rfl ?_
    refine rhF.iload_n (pc := 9) dX12_tell_9 3 rfl ?_
    refine rhF.callV (pc := 10) (ci := 12) (embc := rhe0I _ _) [rhI _] dX12_tell_10 ml_X12_428 mv_X12_isRail ⟨_, rfl, rfl⟩ h1 (c_X12_isRail _ _ _ _ _) (by decide) (by decide) rfl (Nat.le_of_ble_eq_true rfl) (fun r4 _ => ?_)
    refine rhF.if_eq (pc := 13) 40 dX12_tell_13 (by decide) (fun h5 => ?_) (fun h5 => ?_)
    · refine rhF.iconst (pc := 40) (v := (-1)) dX12_tell_40 (by decide) ?_
      exact rhF.zret (pc := 41) dX12_tell_41 rfl rfl rfl
    · refine rhF.iload_n (pc := 16) dX12_tell_16 1 rfl ?_
      refine rhF.iload_n (pc := 17) dX12_tell_17 3 rfl ?_
      refine rhF.icmp_eq (pc := 18) 40 dX12_tell_18 (by decide) (fun h6 => ?_) (fun h6 => ?_)
      · refine rhF.iconst (pc := 40) (v := (-1)) dX12_tell_40 (by decide) ?_
        exact rhF.zret (pc := 41) dX12_tell_41 rfl rfl rfl
      · refine rhF.iload_n (pc := 21) dX12_tell_21 2 rfl ?_
        refine rhF.iconst (pc := 22) (v := 1) dX12_tell_22 (by decide) ?_
        refine rhF.bipush (pc := 23) (v := 8) dX12_tell_23 (by decide) ?_
        refine rhF.callS (pc := 25) (embc := rhe0I _ _) [rhI _, rhI _, rhI _] dX12_tell_25 ml_X12_415 ms_X12_isIn (c_X12_isIn _ _ _ _ _ _) (by decide) (by decide) rfl (Nat.le_of_ble_eq_true rfl) (fun r7 _ => ?_)
        refine rhF.if_eq (pc := 28) 40 dX12_tell_28 (by decide) (fun h8 => ?_) (fun h8 => ?_)
        · refine rhF.iconst (pc := 40) (v := (-1)) dX12_tell_40 (by decide) ?_
          exact rhF.zret (pc := 41) dX12_tell_41 rfl rfl rfl
        · refine rhF.aload_n (pc := 31) dX12_tell_31 0 rfl ?_
          refine rhF.get (pc := 32) (rhI _) dX12_tell_32 fl_X12_336 h1 rfl ?_
          refine rhF.bipush (pc := 35) (v := 12) dX12_tell_35 (by decide) ?_
          refine rhF.icmp_ne (pc := 37) 42 dX12_tell_37 (by decide) (fun h9 => ?_) (fun h9 => ?_)
          · refine rhF.iconst (pc := 40) (v := (-1)) dX12_tell_40 (by decide) ?_
            exact rhF.zret (pc := 41) dX12_tell_41 rfl rfl rfl
          · refine rhF.aload_n (pc := 42) dX12_tell_42 0 rfl ?_
            refine rhF.get (pc := 43) (rhR _) dX12_tell_43 fl_X12_116 h1 rfl ?_
            refine rhF.aload_n (pc := 46) dX12_tell_46 0 rfl ?_
            refine rhF.get (pc := 47) (rhI _) dX12_tell_47 fl_X12_336 h1 rfl ?_
            refine rhF.bipush (pc := 50) (v := 100) dX12_tell_50 (by decide) ?_
            refine rhF.iload_n (pc := 52) dX12_tell_52 1 rfl ?_
            refine rhF.imul (pc := 53) dX12_tell_53 ?_
            refine rhF.bipush (pc := 54) (v := 10) dX12_tell_54 (by decide) ?_
            refine rhF.iload_n (pc := 56) dX12_tell_56 2 rfl ?_
            refine rhF.imul (pc := 57) dX12_tell_57 ?_
            refine rhF.iadd (pc := 58) dX12_tell_58 ?_
            refine rhF.iload_n (pc := 59) dX12_tell_59 3 rfl ?_
            refine rhF.iadd (pc := 60) dX12_tell_60 ?_
            refine rhF.ck (fun h10 => ?_)
            refine rhF.ck (fun h11 => ?_)
            refine rhF.iast (pc := 61) dX12_tell_61 h10 h11 ?_
            refine rhF.aload_n (pc := 62) dX12_tell_62 0 rfl ?_
            refine rhF.dupr (pc := 63) dX12_tell_63 ?_
            refine rhF.get (pc := 64) (rhI _) dX12_tell_64 fl_X12_336 h1 rfl ?_
            refine rhF.iconst (pc := 67) (v := 1) dX12_tell_67 (by decide) ?_
            refine rhF.iadd (pc := 68) dX12_tell_68 ?_
            refine rhF.puti (pc := 69) dX12_tell_69 fl_X12_336 h1 (fun q hq => by cases hq; exact Or.inl rfl) ⟨rfl, rfl⟩ (fun _ => rfl) ?_
            refine rhF.aload_n (pc := 72) dX12_tell_72 0 rfl ?_
            refine rhF.get (pc := 73) (rhI _) dX12_tell_73 fl_X12_336 h1 rfl ?_
            exact rhF.zret (pc := 76) dX12_tell_76 rfl rfl rfl
theorem c_X12_tell (E : rhE) (Γ : rhG) (M : rhM) (v0 : Nat) (v1 : Int32) (v2 : Int32) (v3 : Int32) : ∀ a, f_X12_tell Γ M v0 v1 v2 v3 = some a → rhC E 6 yX12_tell cX12_tell 4 (some .int) [rhR v0, rhI v1, rhI v2, rhI v3] Γ M ((rhe1I Γ) a) := rhF.met (by decide +kernel) (Nat.le_of_ble_eq_true rfl) (b_X12_tell M v0 v1 v2 v3)
def f_X12_town_20 (k46 : rhM → Nat → Option (Int32 × rhM)) (Γ : rhG) : Nat → rhM → Nat → Int32 → Option (Int32 × rhM)
  | 0, _, _, _ => none
  | n + 1, M, v0, v1 =>
    rhck (Γ.2.2.1 v0 = 13) <|
    if v1 < (M.1 v0 3) then
      (rhck (Γ.2.2.1 (M.2.2 v0 0) = 14) <|
      rhck (0 ≤ (v1).toInt ∧ (v1).toInt < (Γ.2.2.2 (M.2.2 v0 0) : Nat)) <|
      rhck (Γ.2.2.1 (M.2.2 v0 1) = 14) <|
      rhck (0 ≤ (v1).toInt ∧ (v1).toInt < (Γ.2.2.2 (M.2.2 v0 1) : Nat)) <|
      let M11 := rhsi M (M.2.2 v0 1) (v1 : Int32).toNatClampNeg (vp_nar .byte (M.1 (M.2.2 v0 0) v1.toNatClampNeg))
      let x12 : Int32 := v1 + 1
      f_X12_town_20 k46 Γ n M11 v0 x12)
    else
      k46 M v0
def f_X12_town_74 (k95 : rhM → Nat → Option (Int32 × rhM)) (Γ : rhG) : Nat → rhM → Nat → Option (Int32 × rhM)
  | 0, _, _ => none
  | n + 1, M, v0 =>
    rhck (Γ.2.2.1 v0 = 13) <|
    (f_X12_isGood Γ M v0).bind fun r20 =>
    if r20 = 0 then
      (k95 M v0)
    else
      if (M.1 v0 8) = 0 then
        (k95 M v0)
      else
        (f_X12_readLine Γ M v0).bind fun r23 =>
        f_X12_town_74 k95 Γ n r23 v0
def f_X12_town_138 (Γ : rhG) : Nat → rhM → Nat → Int32 → Option (Int32 × rhM)
  | 0, _, _, _ => none
  | n + 1, M, v0, v1 =>
    if v1 < 3 then
      (rhck (Γ.2.2.1 v0 = 13) <|
      rhck (Γ.2.2.1 (M.2.2 v0 84) = 15) <|
      rhck (0 ≤ (v1).toInt ∧ (v1).toInt < (Γ.2.2.2 (M.2.2 v0 84) : Nat)) <|
      let M37 := rhsi M (M.2.2 v0 84) (v1 : Int32).toNatClampNeg ((-1))
      let x38 : Int32 := v1 + 1
      f_X12_town_138 Γ n M37 v0 x38)
    else
      rhck (Γ.2.2.1 v0 = 13) <|
      rhck (Γ.2.2.1 (M.2.2 v0 12) = 15) <|
      rhck (0 ≤ (M.1 v0 34).toInt ∧ (M.1 v0 34).toInt < (Γ.2.2.2 (M.2.2 v0 12) : Nat)) <|
      some ((M.1 (M.2.2 v0 12) (M.1 v0 34).toNatClampNeg, M))
def f_X12_town_95 (Γ : rhG) (M : rhM) (v0 : Nat) : Option (Int32 × rhM) :=
  rhck (Γ.2.2.1 v0 = 13) <|
  (f_X12_isGood Γ M v0).bind fun r25 =>
  if r25 = 0 then
    (some (((-1), M)))
  else
    let M27 := rhsi M v0 34 (M.1 v0 35)
    (f_X12_begin Γ M27 v0).bind fun r28 =>
    let M29 := rhsi r28 v0 82 0
    let M30 := rhsi M29 v0 51 0
    let M31 := rhsi M30 v0 53 0
    let M32 := rhsi M31 v0 66 0
    f_X12_town_138 Γ rhFU M32 v0 0
def f_X12_town_46 (Γ : rhG) (M : rhM) (v0 : Nat) : Option (Int32 × rhM) :=
  rhck (Γ.2.2.1 v0 = 13) <|
  let M14 := rhsi M v0 2 0
  let M15 := rhsi M14 v0 7 0
  let M16 := rhsi M15 v0 35 (1 - (M15.1 v0 34))
  (f_X12_clearBank Γ M16 v0).bind fun r17 =>
  (f_X12_goOn Γ r17 v0).bind fun r18 =>
  f_X12_town_74 (f_X12_town_95 Γ) Γ rhFU r18 v0
def f_X12_town (Γ : rhG) (M : rhM) (v0 : Nat) : Option (Int32 × rhM) :=
  rhck (Γ.2.2.1 v0 = 13) <|
  let M2 := rhsi M v0 4 0
  let M3 := rhsi M2 v0 5 ((-1))
  let M4 := rhsi M3 v0 3 (M3.1 v0 2)
  f_X12_town_20 (f_X12_town_46 Γ) Γ rhFU M4 v0 0
set_option maxHeartbeats 4000000 in
set_option maxRecDepth 100000 in
theorem b_X12_town_20 {E : rhE} {Γ : rhG} {k46 : rhM → Nat → Option (Int32 × rhM)} (hk46 : ∀ (M : rhM) (v0 : Nat), rhF E 10 2 yX12_town cX12_town (some .int) Γ (rhe1I Γ) (k46 M v0) 46 [(0, rhR v0)] [] Γ M) : ∀ (n : Nat) (M : rhM) (v0 : Nat) (v1 : Int32), rhF E 10 2 yX12_town cX12_town (some .int) Γ (rhe1I Γ) (f_X12_town_20 k46 Γ n M v0 v1) 20 [(0, rhR v0), (1, rhI v1)] [] Γ M := by
  intro n
  induction n with
  | zero => intro M v0 v1; rw [f_X12_town_20]; exact rhF.nope
  | succ n ih =>
    intro M v0 v1
    rw [f_X12_town_20]
    refine rhF.iload_n (pc := 20) dX12_town_20 1 rfl ?_
    refine rhF.aload_n (pc := 21) dX12_town_21 0 rfl ?_
    refine rhF.ck (fun h5 => ?_)
    refine rhF.get (pc := 22) (rhI _) dX12_town_22 fl_X12_214 h5 rfl ?_
    refine rhF.icmp_ge (pc := 25) 46 dX12_town_25 (by decide) (fun h6 => ?_) (fun h6 => ?_)
    · refine rhF.aload_n (pc := 28) dX12_town_28 0 rfl ?_
      refine rhF.get (pc := 29) (rhR _) dX12_town_29 fl_X12_13 h5 rfl ?_
      refine rhF.iload_n (pc := 32) dX12_town_32 1 rfl ?_
      refine rhF.aload_n (pc := 33) dX12_town_33 0 rfl ?_
      refine rhF.get (pc := 34) (rhR _) dX12_town_34 fl_X12_7 h5 rfl ?_
      refine rhF.iload_n (pc := 37) dX12_town_37 1 rfl ?_
      refine rhF.ck (fun h7 => ?_)
      refine rhF.ck (fun h8 => ?_)
      refine rhF.bald (pc := 38) dX12_town_38 h7 h8 ?_
      refine rhF.ck (fun h9 => ?_)
      refine rhF.ck (fun h10 => ?_)
      refine rhF.bast (pc := 39) dX12_town_39 h9 h10 ?_
      refine rhF.iinc (pc := 40) (L' := [(1, rhI _), (0, rhR _)]) dX12_town_40 1 rfl rfl (by decide) rfl ?_
      refine rhF.goto (pc := 43) 20 dX12_town_43 (by decide) ?_
      refine rhF.sub [1, 0] rfl ?_
      exact ih _ _ _
    · refine rhF.sub [0] rfl ?_
      exact hk46 _ _
set_option maxHeartbeats 4000000 in
set_option maxRecDepth 100000 in
theorem b_X12_town_74 {E : rhE} {Γ : rhG} {k95 : rhM → Nat → Option (Int32 × rhM)} (hk95 : ∀ (M : rhM) (v0 : Nat), rhF E 10 2 yX12_town cX12_town (some .int) Γ (rhe1I Γ) (k95 M v0) 95 [(0, rhR v0)] [] Γ M) : ∀ (n : Nat) (M : rhM) (v0 : Nat), rhF E 10 2 yX12_town cX12_town (some .int) Γ (rhe1I Γ) (f_X12_town_74 k95 Γ n M v0) 74 [(0, rhR v0)] [] Γ M := by
  intro n
  induction n with
  | zero => intro M v0; rw [f_X12_town_74]; exact rhF.nope
  | succ n ih =>
    intro M v0
    rw [f_X12_town_74]
    refine rhF.aload_n (pc := 74) dX12_town_74 0 rfl ?_
    refine rhF.ck (fun h19 => ?_)
    refine rhF.callV (pc := 75) (ci := 12) (embc := rhe0I _ _) [] dX12_town_75 ml_X12_294 mv_X12_isGood ⟨_, rfl, rfl⟩ h19 (c_X12_isGood _ _ _ _) (by decide) (by decide) rfl (Nat.le_of_ble_eq_true rfl) (fun r20 _ => ?_)
    refine rhF.if_eq (pc := 78) 95 dX12_town_78 (by decide) (fun h21 => ?_) (fun h21 => ?_)
    · exact hk95 _ _
    · refine rhF.aload_n (pc := 81) dX12_town_81 0 rfl ?_
      refine rhF.get (pc := 82) (rhI _) dX12_town_82 fl_X12_266 h19 rfl ?_
      refine rhF.if_eq (pc := 85) 95 dX12_town_85 (by decide) (fun h22 => ?_) (fun h22 => ?_)
      · exact hk95 _ _
      · refine rhF.aload_n (pc := 88) dX12_town_88 0 rfl ?_
        refine rhF.callV (pc := 89) (ci := 12) (embc := rhe1U _) [] dX12_town_89 ml_X12_330 mv_X12_readLine ⟨_, rfl, rfl⟩ h19 (c_X12_readLine _ _ _ _) (by decide) (by decide) rfl (Nat.le_of_ble_eq_true rfl) (fun r23 _ => ?_)
        refine rhF.goto (pc := 92) 74 dX12_town_92 (by decide) ?_
        exact ih _ _
set_option maxHeartbeats 4000000 in
set_option maxRecDepth 100000 in
theorem b_X12_town_138 {E : rhE} {Γ : rhG} : ∀ (n : Nat) (M : rhM) (v0 : Nat) (v1 : Int32), rhF E 10 2 yX12_town cX12_town (some .int) Γ (rhe1I Γ) (f_X12_town_138 Γ n M v0 v1) 138 [(0, rhR v0), (1, rhI v1)] [] Γ M := by
  intro n
  induction n with
  | zero => intro M v0 v1; rw [f_X12_town_138]; exact rhF.nope
  | succ n ih =>
    intro M v0 v1
    rw [f_X12_town_138]
    refine rhF.iload_n (pc := 138) dX12_town_138 1 rfl ?_
    refine rhF.iconst (pc := 139) (v := 3) dX12_town_139 (by decide) ?_
    refine rhF.icmp_ge (pc := 140) 156 dX12_town_140 (by decide) (fun h33 => ?_) (fun h33 => ?_)
    · refine rhF.aload_n (pc := 143) dX12_town_143 0 rfl ?_
      refine rhF.ck (fun h34 => ?_)
      refine rhF.get (pc := 144) (rhR _) dX12_town_144 fl_X12_190 h34 rfl ?_
      refine rhF.iload_n (pc := 147) dX12_town_147 1 rfl ?_
      refine rhF.iconst (pc := 148) (v := (-1)) dX12_town_148 (by decide) ?_
      refine rhF.ck (fun h35 => ?_)
      refine rhF.ck (fun h36 => ?_)
      refine rhF.iast (pc := 149) dX12_town_149 h35 h36 ?_
      refine rhF.iinc (pc := 150) (L' := [(1, rhI _), (0, rhR _)]) dX12_town_150 1 rfl rfl (by decide) rfl ?_
      refine rhF.goto (pc := 153) 138 dX12_town_153 (by decide) ?_
      refine rhF.sub [1, 0] rfl ?_
      exact ih _ _ _
    · refine rhF.aload_n (pc := 156) dX12_town_156 0 rfl ?_
      refine rhF.ck (fun h39 => ?_)
      refine rhF.get (pc := 157) (rhR _) dX12_town_157 fl_X12_24 h39 rfl ?_
      refine rhF.aload_n (pc := 160) dX12_town_160 0 rfl ?_
      refine rhF.get (pc := 161) (rhI _) dX12_town_161 fl_X12_327 h39 rfl ?_
      refine rhF.ck (fun h40 => ?_)
      refine rhF.ck (fun h41 => ?_)
      refine rhF.iald (pc := 164) dX12_town_164 h40 h41 ?_
      exact rhF.zret (pc := 165) dX12_town_165 rfl rfl rfl
set_option maxHeartbeats 4000000 in
set_option maxRecDepth 100000 in
theorem b_X12_town_95 {E : rhE} {Γ : rhG} : ∀ (M : rhM) (v0 : Nat), rhF E 10 2 yX12_town cX12_town (some .int) Γ (rhe1I Γ) (f_X12_town_95 Γ M v0) 95 [(0, rhR v0)] [] Γ M := by
  intro M v0
  rw [f_X12_town_95]
  refine rhF.aload_n (pc := 95) dX12_town_95 0 rfl ?_
  refine rhF.ck (fun h24 => ?_)
  refine rhF.callV (pc := 96) (ci := 12) (embc := rhe0I _ _) [] dX12_town_96 ml_X12_294 mv_X12_isGood ⟨_, rfl, rfl⟩ h24 (c_X12_isGood _ _ _ _) (by decide) (by decide) rfl (Nat.le_of_ble_eq_true rfl) (fun r25 _ => ?_)
  refine rhF.if_ne (pc := 99) 104 dX12_town_99 (by decide) (fun h26 => ?_) (fun h26 => ?_)
  · refine rhF.iconst (pc := 102) (v := (-1)) dX12_town_102 (by decide) ?_
    exact rhF.zret (pc := 103) dX12_town_103 rfl rfl rfl
  · refine rhF.aload_n (pc := 104) dX12_town_104 0 rfl ?_
    refine rhF.aload_n (pc := 105) dX12_town_105 0 rfl ?_
    refine rhF.get (pc := 106) (rhI _) dX12_town_106 fl_X12_318 h24 rfl ?_
    refine rhF.puti (pc := 109) dX12_town_109 fl_X12_327 h24 (fun q hq => by cases hq; exact Or.inl rfl) ⟨rfl, rfl⟩ (fun _ => rfl) ?_
    refine rhF.aload_n (pc := 112) dX12_town_112 0 rfl ?_
    refine rhF.callV (pc := 113) (ci := 12) (embc := rhe1U _) [] dX12_town_113 ml_X12_211 mv_X12_begin ⟨_, rfl, rfl⟩ h24 (c_X12_begin _ _ _ _) (by decide) (by decide) rfl (Nat.le_of_ble_eq_true rfl) (fun r28 _ => ?_)
    refine rhF.aload_n (pc := 116) dX12_town_116 0 rfl ?_
    refine rhF.iconst (pc := 117) (v := 0) dX12_town_117 (by decide) ?_
    refine rhF.puti (pc := 118) dX12_town_118 fl_X12_333 h24 (fun q hq => by cases hq; exact Or.inl rfl) ⟨rfl, rfl⟩ (fun _ => rfl) ?_
    refine rhF.aload_n (pc := 121) dX12_town_121 0 rfl ?_
    refine rhF.iconst (pc := 122) (v := 0) dX12_town_122 (by decide) ?_
    refine rhF.puti (pc := 123) dX12_town_123 fl_X12_336 h24 (fun q hq => by cases hq; exact Or.inl rfl) ⟨rfl, rfl⟩ (fun _ => rfl) ?_
    refine rhF.aload_n (pc := 126) dX12_town_126 0 rfl ?_
    refine rhF.iconst (pc := 127) (v := 0) dX12_town_127 (by decide) ?_
    refine rhF.puti (pc := 128) dX12_town_128 fl_X12_339 h24 (fun q hq => by cases hq; exact Or.inl rfl) ⟨rfl, rfl⟩ (fun _ => rfl) ?_
    refine rhF.aload_n (pc := 131) dX12_town_131 0 rfl ?_
    refine rhF.iconst (pc := 132) (v := 0) dX12_town_132 (by decide) ?_
    refine rhF.puti (pc := 133) dX12_town_133 fl_X12_342 h24 (fun q hq => by cases hq; exact Or.inl rfl) ⟨rfl, rfl⟩ (fun _ => rfl) ?_
    refine rhF.iconst (pc := 136) (v := 0) dX12_town_136 (by decide) ?_
    refine rhF.istore_n (pc := 137) (L' := [(1, rhI _), (0, rhR _)]) dX12_town_137 (by decide) rfl ?_
    refine rhF.sub [1, 0] rfl ?_
    exact (b_X12_town_138 rhFU) _ _ _
set_option maxHeartbeats 4000000 in
set_option maxRecDepth 100000 in
theorem b_X12_town_46 {E : rhE} {Γ : rhG} : ∀ (M : rhM) (v0 : Nat), rhF E 10 2 yX12_town cX12_town (some .int) Γ (rhe1I Γ) (f_X12_town_46 Γ M v0) 46 [(0, rhR v0)] [] Γ M := by
  intro M v0
  rw [f_X12_town_46]
  refine rhF.aload_n (pc := 46) dX12_town_46 0 rfl ?_
  refine rhF.iconst (pc := 47) (v := 0) dX12_town_47 (by decide) ?_
  refine rhF.ck (fun h13 => ?_)
  refine rhF.puti (pc := 48) dX12_town_48 fl_X12_324 h13 (fun q hq => by cases hq; exact Or.inl rfl) ⟨rfl, rfl⟩ (fun _ => rfl) ?_
  refine rhF.aload_n (pc := 51) dX12_town_51 0 rfl ?_
  refine rhF.iconst (pc := 52) (v := 0) dX12_town_52 (by decide) ?_
  refine rhF.puti (pc := 53) dX12_town_53 fl_X12_256 h13 (fun q hq => by cases hq; exact Or.inl rfl) ⟨rfl, rfl⟩ (fun _ => rfl) ?_
  refine rhF.aload_n (pc := 56) dX12_town_56 0 rfl ?_
  refine rhF.iconst (pc := 57) (v := 1) dX12_town_57 (by decide) ?_
  refine rhF.aload_n (pc := 58) dX12_town_58 0 rfl ?_
  refine rhF.get (pc := 59) (rhI _) dX12_town_59 fl_X12_327 h13 rfl ?_
  refine rhF.isub (pc := 62) dX12_town_62 ?_
  refine rhF.puti (pc := 63) dX12_town_63 fl_X12_318 h13 (fun q hq => by cases hq; exact Or.inl rfl) ⟨rfl, rfl⟩ (fun _ => rfl) ?_
  refine rhF.aload_n (pc := 66) dX12_town_66 0 rfl ?_
  refine rhF.callV (pc := 67) (ci := 12) (embc := rhe1U _) [] dX12_town_67 ml_X12_208 mv_X12_clearBank ⟨_, rfl, rfl⟩ h13 (c_X12_clearBank _ _ _ _) (by decide) (by decide) rfl (Nat.le_of_ble_eq_true rfl) (fun r17 _ => ?_)
  refine rhF.aload_n (pc := 70) dX12_town_70 0 rfl ?_
  refine rhF.callV (pc := 71) (ci := 12) (embc := rhe1U _) [] dX12_town_71 ml_X12_298 mv_X12_goOn ⟨_, rfl, rfl⟩ h13 (c_X12_goOn _ _ _ _) (by decide) (by decide) rfl (Nat.le_of_ble_eq_true rfl) (fun r18 _ => ?_)
  exact (b_X12_town_74 (b_X12_town_95) rhFU) _ _
set_option maxHeartbeats 4000000 in
set_option maxRecDepth 100000 in
theorem b_X12_town {E : rhE} {Γ : rhG} : ∀ (M : rhM) (v0 : Nat), rhF E 10 2 yX12_town cX12_town (some .int) Γ (rhe1I Γ) (f_X12_town Γ M v0) 0 [(0, rhR v0)] [] Γ M := by
  intro M v0
  rw [f_X12_town]
  refine rhF.aload_n (pc := 0) dX12_town_0 0 rfl ?_
  refine rhF.iconst (pc := 1) (v := 0) dX12_town_1 (by decide) ?_
  refine rhF.ck (fun h1 => ?_)
  refine rhF.puti (pc := 2) dX12_town_2 fl_X12_217 h1 (fun q hq => by cases hq; exact Or.inl rfl) ⟨rfl, rfl⟩ (fun _ => rfl) ?_
  refine rhF.aload_n (pc := 5) dX12_town_5 0 rfl ?_
  refine rhF.iconst (pc := 6) (v := (-1)) dX12_town_6 (by decide) ?_
  refine rhF.puti (pc := 7) dX12_town_7 fl_X12_16 h1 (fun q hq => by cases hq; exact Or.inl rfl) ⟨rfl, rfl⟩ (fun _ => rfl) ?_
  refine rhF.aload_n (pc := 10) dX12_town_10 0 rfl ?_
  refine rhF.aload_n (pc := 11) dX12_town_11 0 rfl ?_
  refine rhF.get (pc := 12) (rhI _) dX12_town_12 fl_X12_324 h1 rfl ?_
  refine rhF.puti (pc := 15) dX12_town_15 fl_X12_214 h1 (fun q hq => by cases hq; exact Or.inl rfl) ⟨rfl, rfl⟩ (fun _ => rfl) ?_
  refine rhF.iconst (pc := 18) (v := 0) dX12_town_18 (by decide) ?_
  refine rhF.istore_n (pc := 19) (L' := [(1, rhI _), (0, rhR _)]) dX12_town_19 (by decide) rfl ?_
  refine rhF.sub [1, 0] rfl ?_
  exact (b_X12_town_20 (b_X12_town_46) rhFU) _ _ _
theorem c_X12_town (E : rhE) (Γ : rhG) (M : rhM) (v0 : Nat) : ∀ a, f_X12_town Γ M v0 = some a → rhC E 10 yX12_town cX12_town 2 (some .int) [rhR v0] Γ M ((rhe1I Γ) a) := rhF.met (by decide +kernel) (Nat.le_of_ble_eq_true rfl) (b_X12_town M v0)
def f_X12_undo_36 (k118 : rhM → Nat → Int32 → Option (Int32 × rhM)) (Γ : rhG) : Nat → rhM → Nat → Int32 → Int32 → Option (Int32 × rhM)
  | 0, _, _, _, _ => none
  | n + 1, M, v0, v2, v3 =>
    if v3 < v2 then
      (rhck (Γ.2.2.1 v0 = 13) <|
      let M9 := rhsi M v0 48 ((M.1 v0 48) - 1)
      rhck (Γ.2.2.1 (M.2.2 v0 47) = 15) <|
      rhck (0 ≤ (M9.1 v0 48).toInt ∧ (M9.1 v0 48).toInt < (Γ.2.2.2 (M.2.2 v0 47) : Nat)) <|
      let M12 := rhsi M9 v0 49 ((M9.1 v0 49) - (M9.1 (M.2.2 v0 47) (M9.1 v0 48).toNatClampNeg))
      rhck (Γ.2.2.1 (M.2.2 v0 46) = 15) <|
      rhck (0 ≤ (M12.1 v0 48).toInt ∧ (M12.1 v0 48).toInt < (Γ.2.2.2 (M.2.2 v0 46) : Nat)) <|
      (f_X12_moves Γ M12 v0 ((M12.1 (M.2.2 v0 46) (M12.1 v0 48).toNatClampNeg) - (M12.1 (M.2.2 v0 46) (M12.1 v0 48).toNatClampNeg) / 10 * 10) (((M12.1 (M.2.2 v0 46) (M12.1 v0 48).toNatClampNeg) / 10) - ((M12.1 (M.2.2 v0 46) (M12.1 v0 48).toNatClampNeg) / 10) / 10 * 10) ((M12.1 (M.2.2 v0 46) (M12.1 v0 48).toNatClampNeg) / 100)).bind fun r15 =>
      let x16 : Int32 := v3 + 1
      f_X12_undo_36 k118 Γ n r15 v0 v2 x16)
    else
      k118 M v0 v2
def f_X12_undo_118 (Γ : rhG) (M : rhM) (v0 : Nat) (v2 : Int32) : Option (Int32 × rhM) :=
  rhck (Γ.2.2.1 v0 = 13) <|
  (f_X12_keepNow Γ M v0).bind fun r18 =>
  some ((v2, r18))
def f_X12_undo_29 (Γ : rhG) (M : rhM) (v0 : Nat) (s0 : Int32) : Option (Int32 × rhM) :=
  rhck (Γ.2.2.1 v0 = 13) <|
  (f_X12_layNow Γ M v0).bind fun r6 =>
  f_X12_undo_36 (f_X12_undo_118 Γ) Γ rhFU r6 v0 s0 0
def f_X12_undo (Γ : rhG) (M : rhM) (v0 : Nat) (v1 : Int32) : Option (Int32 × rhM) :=
  (f_X12_isIn Γ M v1 (0 : Int32) (300 : Int32)).bind fun r1 =>
  if r1 = 0 then
    (some (((-1), M)))
  else
    rhck (Γ.2.2.1 v0 = 13) <|
    if v1 < (M.1 v0 48) then
      (f_X12_undo_29 Γ M v0 v1)
    else
      f_X12_undo_29 Γ M v0 (M.1 v0 48)
set_option maxHeartbeats 4000000 in
set_option maxRecDepth 100000 in
theorem b_X12_undo_36 {E : rhE} {Γ : rhG} {k118 : rhM → Nat → Int32 → Option (Int32 × rhM)} (hk118 : ∀ (M : rhM) (v0 : Nat) (v2 : Int32), rhF E 5 4 yX12_undo cX12_undo (some .int) Γ (rhe1I Γ) (k118 M v0 v2) 118 [(0, rhR v0), (2, rhI v2)] [] Γ M) : ∀ (n : Nat) (M : rhM) (v0 : Nat) (v2 : Int32) (v3 : Int32), rhF E 5 4 yX12_undo cX12_undo (some .int) Γ (rhe1I Γ) (f_X12_undo_36 k118 Γ n M v0 v2 v3) 36 [(0, rhR v0), (2, rhI v2), (3, rhI v3)] [] Γ M := by
  intro n
  induction n with
  | zero => intro M v0 v2 v3; rw [f_X12_undo_36]; exact rhF.nope
  | succ n ih =>
    intro M v0 v2 v3
    rw [f_X12_undo_36]
    refine rhF.iload_n (pc := 36) dX12_undo_36 2 rfl ?_
    refine rhF.iload_n (pc := 37) dX12_undo_37 1 rfl ?_
    refine rhF.icmp_ge (pc := 38) 118 dX12_undo_38 (by decide) (fun h7 => ?_) (fun h7 => ?_)
    · refine rhF.aload_n (pc := 41) dX12_undo_41 0 rfl ?_
      refine rhF.dupr (pc := 42) dX12_undo_42 ?_
      refine rhF.ck (fun h8 => ?_)
      refine rhF.get (pc := 43) (rhI _) dX12_undo_43 fl_X12_458 h8 rfl ?_
      refine rhF.iconst (pc := 46) (v := 1) dX12_undo_46 (by decide) ?_
      refine rhF.isub (pc := 47) dX12_undo_47 ?_
      refine rhF.puti (pc := 48) dX12_undo_48 fl_X12_458 h8 (fun q hq => by cases hq; exact Or.inl rfl) ⟨rfl, rfl⟩ (fun _ => rfl) ?_
      refine rhF.aload_n (pc := 51) dX12_undo_51 0 rfl ?_
      refine rhF.dupr (pc := 52) dX12_undo_52 ?_
      refine rhF.get (pc := 53) (rhI _) dX12_undo_53 fl_X12_461 h8 rfl ?_
      refine rhF.aload_n (pc := 56) dX12_undo_56 0 rfl ?_
      refine rhF.get (pc := 57) (rhR _) dX12_undo_57 fl_X12_113 h8 rfl ?_
      refine rhF.aload_n (pc := 60) dX12_undo_60 0 rfl ?_
      refine rhF.get (pc := 61) (rhI _) dX12_undo_61 fl_X12_458 h8 rfl ?_
      refine rhF.ck (fun h10 => ?_)
      refine rhF.ck (fun h11 => ?_)
      refine rhF.iald (pc := 64) dX12_undo_64 h10 h11 ?_
      refine rhF.isub (pc := 65) dX12_undo_65 ?_
      refine rhF.puti (pc := 66) dX12_undo_66 fl_X12_461 h8 (fun q hq => by cases hq; exact Or.inl rfl) ⟨rfl, rfl⟩ (fun _ => rfl) ?_
      refine rhF.aload_n (pc := 69) dX12_undo_69 0 rfl ?_
      refine rhF.aload_n (pc := 70) dX12_undo_70 0 rfl ?_
      refine rhF.get (pc := 71) (rhR _) dX12_undo_71 fl_X12_110 h8 rfl ?_
      refine rhF.aload_n (pc := 74) dX12_undo_74 0 rfl ?_
      refine rhF.get (pc := 75) (rhI _) dX12_undo_75 fl_X12_458 h8 rfl ?_
      refine rhF.ck (fun h13 => ?_)
      refine rhF.ck (fun h14 => ?_)
      refine rhF.iald (pc := 78) dX12_undo_78 h13 h14 ?_
      refine rhF.bipush (pc := 79) (v := 10) dX12_undo_79 (by decide) ?_
      refine rhF.iremc (pc := 81) dX12_undo_81 (by decide) ?_
      refine rhF.aload_n (pc := 82) dX12_undo_82 0 rfl ?_
      refine rhF.get (pc := 83) (rhR _) dX12_undo_83 fl_X12_110 h8 rfl ?_
      refine rhF.aload_n (pc := 86) dX12_undo_86 0 rfl ?_
      refine rhF.get (pc := 87) (rhI _) dX12_undo_87 fl_X12_458 h8 rfl ?_
      refine rhF.iald (pc := 90) dX12_undo_90 h13 h14 ?_
      refine rhF.bipush (pc := 91) (v := 10) dX12_undo_91 (by decide) ?_
      refine rhF.idivc (pc := 93) dX12_undo_93 (by decide) ?_
      refine rhF.bipush (pc := 94) (v := 10) dX12_undo_94 (by decide) ?_
      refine rhF.iremc (pc := 96) dX12_undo_96 (by decide) ?_
      refine rhF.aload_n (pc := 97) dX12_undo_97 0 rfl ?_
      refine rhF.get (pc := 98) (rhR _) dX12_undo_98 fl_X12_110 h8 rfl ?_
      refine rhF.aload_n (pc := 101) dX12_undo_101 0 rfl ?_
      refine rhF.get (pc := 102) (rhI _) dX12_undo_102 fl_X12_458 h8 rfl ?_
      refine rhF.iald (pc := 105) dX12_undo_105 h13 h14 ?_
      refine rhF.bipush (pc := 106) (v := 100) dX12_undo_106 (by decide) ?_
      refine rhF.idivc (pc := 108) dX12_undo_108 (by decide) ?_
      refine rhF.callV (pc := 109) (ci := 12) (embc := rhe1U _) [rhI _, rhI _, rhI _] dX12_undo_109 ml_X12_474 mv_X12_moves ⟨_, rfl, rfl⟩ h8 (c_X12_moves _ _ _ _ _ _ _) (by decide) (by decide) rfl (Nat.le_of_ble_eq_true rfl) (fun r15 _ => ?_)
      refine rhF.iinc (pc := 112) (L' := [(3, rhI _), (0, rhR _), (2, rhI _)]) dX12_undo_112 2 rfl rfl (by decide) rfl ?_
      refine rhF.goto (pc := 115) 36 dX12_undo_115 (by decide) ?_
      refine rhF.sub [1, 2, 0] rfl ?_
      exact ih _ _ _ _
    · refine rhF.sub [0, 1] rfl ?_
      exact hk118 _ _ _
set_option maxHeartbeats 4000000 in
set_option maxRecDepth 100000 in
theorem b_X12_undo_118 {E : rhE} {Γ : rhG} : ∀ (M : rhM) (v0 : Nat) (v2 : Int32), rhF E 5 4 yX12_undo cX12_undo (some .int) Γ (rhe1I Γ) (f_X12_undo_118 Γ M v0 v2) 118 [(0, rhR v0), (2, rhI v2)] [] Γ M := by
  intro M v0 v2
  rw [f_X12_undo_118]
  refine rhF.aload_n (pc := 118) dX12_undo_118 0 rfl ?_
  refine rhF.ck (fun h17 => ?_)
  refine rhF.callV (pc := 119) (ci := 12) (embc := rhe1U _) [] dX12_undo_119 ml_X12_455 mv_X12_keepNow ⟨_, rfl, rfl⟩ h17 (c_X12_keepNow _ _ _ _) (by decide) (by decide) rfl (Nat.le_of_ble_eq_true rfl) (fun r18 _ => ?_)
  refine rhF.iload_n (pc := 122) dX12_undo_122 1 rfl ?_
  exact rhF.zret (pc := 123) dX12_undo_123 rfl rfl rfl
set_option maxHeartbeats 4000000 in
set_option maxRecDepth 100000 in
theorem b_X12_undo_29 {E : rhE} {Γ : rhG} : ∀ (M : rhM) (v0 : Nat) (s0 : Int32), rhF E 5 4 yX12_undo cX12_undo (some .int) Γ (rhe1I Γ) (f_X12_undo_29 Γ M v0 s0) 29 [(0, rhR v0)] [rhI s0] Γ M := by
  intro M v0 s0
  rw [f_X12_undo_29]
  refine rhF.istore_n (pc := 29) (L' := [(2, rhI _), (0, rhR _)]) dX12_undo_29 (by decide) rfl ?_
  refine rhF.aload_n (pc := 30) dX12_undo_30 1 rfl ?_
  refine rhF.ck (fun h5 => ?_)
  refine rhF.callV (pc := 31) (ci := 12) (embc := rhe1U _) [] dX12_undo_31 ml_X12_467 mv_X12_layNow ⟨_, rfl, rfl⟩ h5 (c_X12_layNow _ _ _ _) (by decide) (by decide) rfl (Nat.le_of_ble_eq_true rfl) (fun r6 _ => ?_)
  refine rhF.iconst (pc := 34) (v := 0) dX12_undo_34 (by decide) ?_
  refine rhF.istore_n (pc := 35) (L' := [(3, rhI _), (2, rhI _), (0, rhR _)]) dX12_undo_35 (by decide) rfl ?_
  refine rhF.sub [2, 1, 0] rfl ?_
  exact (b_X12_undo_36 (b_X12_undo_118) rhFU) _ _ _ _
set_option maxHeartbeats 4000000 in
set_option maxRecDepth 100000 in
theorem b_X12_undo {E : rhE} {Γ : rhG} : ∀ (M : rhM) (v0 : Nat) (v1 : Int32), rhF E 5 4 yX12_undo cX12_undo (some .int) Γ (rhe1I Γ) (f_X12_undo Γ M v0 v1) 0 [(0, rhR v0), (1, rhI v1)] [] Γ M := by
  intro M v0 v1
  rw [f_X12_undo]
  refine rhF.iload_n (pc := 0) dX12_undo_0 1 rfl ?_
  refine rhF.iconst (pc := 1) (v := 0) dX12_undo_1 (by decide) ?_
  refine rhF.sipush (pc := 2) (v := 300) dX12_undo_2 (by decide) ?_
  refine rhF.callS (pc := 5) (embc := rhe0I _ _) [rhI _, rhI _, rhI _] dX12_undo_5 ml_X12_415 ms_X12_isIn (c_X12_isIn _ _ _ _ _ _) (by decide) (by decide) rfl (Nat.le_of_ble_eq_true rfl) (fun r1 _ => ?_)
  refine rhF.if_ne (pc := 8) 13 dX12_undo_8 (by decide) (fun h2 => ?_) (fun h2 => ?_)
  · refine rhF.iconst (pc := 11) (v := (-1)) dX12_undo_11 (by decide) ?_
    exact rhF.zret (pc := 12) dX12_undo_12 rfl rfl rfl
  · refine rhF.iload_n (pc := 13) dX12_undo_13 1 rfl ?_
    refine rhF.aload_n (pc := 14) dX12_undo_14 0 rfl ?_
    refine rhF.ck (fun h3 => ?_)
    refine rhF.get (pc := 15) (rhI _) dX12_undo_15 fl_X12_458 h3 rfl ?_
    refine rhF.icmp_ge (pc := 18) 25 dX12_undo_18 (by decide) (fun h4 => ?_) (fun h4 => ?_)
    · refine rhF.iload_n (pc := 21) dX12_undo_21 1 rfl ?_
      refine rhF.goto (pc := 22) 29 dX12_undo_22 (by decide) ?_
      refine rhF.sub [0] rfl ?_
      exact (b_X12_undo_29) _ _ _
    · refine rhF.aload_n (pc := 25) dX12_undo_25 0 rfl ?_
      refine rhF.get (pc := 26) (rhI _) dX12_undo_26 fl_X12_458 h3 rfl ?_
      refine rhF.sub [0] rfl ?_
      exact (b_X12_undo_29) _ _ _
theorem c_X12_undo (E : rhE) (Γ : rhG) (M : rhM) (v0 : Nat) (v1 : Int32) : ∀ a, f_X12_undo Γ M v0 v1 = some a → rhC E 5 yX12_undo cX12_undo 4 (some .int) [rhR v0, rhI v1] Γ M ((rhe1I Γ) a) := rhF.met (by decide +kernel) (Nat.le_of_ble_eq_true rfl) (b_X12_undo M v0 v1)
def f_X12_untell (Γ : rhG) (M : rhM) (v0 : Nat) (v1 : Int32) : Option (Int32 × rhM) :=
  rhck (Γ.2.2.1 v0 = 13) <|
  (f_X12_isIn Γ M v1 (0 : Int32) ((M.1 v0 82) - 1)).bind fun r2 =>
  if r2 = 0 then
    (some ((0, M)))
  else
    rhck (Γ.2.2.1 (M.2.2 v0 76) = 15) <|
    rhck (0 ≤ (v1).toInt ∧ (v1).toInt < (Γ.2.2.2 (M.2.2 v0 76) : Nat)) <|
    if (M.1 (M.2.2 v0 76) v1.toNatClampNeg) < 0 then
      (let M7 := rhsi M (M.2.2 v0 76) (v1 : Int32).toNatClampNeg (M.1 v0 83)
      some ((1, M7)))
    else
      some ((0, M))
set_option maxHeartbeats 4000000 in
set_option maxRecDepth 100000 in
theorem b_X12_untell {E : rhE} {Γ : rhG} : ∀ (M : rhM) (v0 : Nat) (v1 : Int32), rhF E 5 2 yX12_untell cX12_untell (some .boolean) Γ (rhe1I Γ) (f_X12_untell Γ M v0 v1) 0 [(0, rhR v0), (1, rhI v1)] [] Γ M := by
  intro M v0 v1
  rw [f_X12_untell]
  refine rhF.iload_n (pc := 0) dX12_untell_0 1 rfl ?_
  refine rhF.iconst (pc := 1) (v := 0) dX12_untell_1 (by decide) ?_
  refine rhF.aload_n (pc := 2) dX12_untell_2 0 rfl ?_
  refine rhF.ck (fun h1 => ?_)
  refine rhF.get (pc := 3) (rhI _) dX12_untell_3 fl_X12_333 h1 rfl ?_
  refine rhF.iconst (pc := 6) (v := 1) dX12_untell_6 (by decide) ?_
  refine rhF.isub (pc := 7) dX12_untell_7 ?_
  refine rhF.callS (pc := 8) (embc := rhe0I _ _) [rhI _, rhI _, rhI _] dX12_untell_8 ml_X12_415 ms_X12_isIn (c_X12_isIn _ _ _ _ _ _) (by decide) (by decide) rfl (Nat.le_of_ble_eq_true rfl) (fun r2 _ => ?_)
  refine rhF.if_eq (pc := 11) 23 dX12_untell_11 (by decide) (fun h3 => ?_) (fun h3 => ?_)
  · refine rhF.iconst (pc := 23) (v := 0) dX12_untell_23 (by decide) ?_
    exact rhF.zret (pc := 24) dX12_untell_24 rfl rfl rfl
  · refine rhF.aload_n (pc := 14) dX12_untell_14 0 rfl ?_
    refine rhF.get (pc := 15) (rhR _) dX12_untell_15 fl_X12_172 h1 rfl ?_
    refine rhF.iload_n (pc := 18) dX12_untell_18 1 rfl ?_
    refine rhF.ck (fun h4 => ?_)
    refine rhF.ck (fun h5 => ?_)
    refine rhF.iald (pc := 19) dX12_untell_19 h4 h5 ?_
    refine rhF.if_lt (pc := 20) 25 dX12_untell_20 (by decide) (fun h6 => ?_) (fun h6 => ?_)
    · refine rhF.aload_n (pc := 25) dX12_untell_25 0 rfl ?_
      refine rhF.get (pc := 26) (rhR _) dX12_untell_26 fl_X12_172 h1 rfl ?_
      refine rhF.iload_n (pc := 29) dX12_untell_29 1 rfl ?_
      refine rhF.aload_n (pc := 30) dX12_untell_30 0 rfl ?_
      refine rhF.get (pc := 31) (rhI _) dX12_untell_31 fl_X12_555 h1 rfl ?_
      refine rhF.iast (pc := 34) dX12_untell_34 h4 h5 ?_
      refine rhF.iconst (pc := 35) (v := 1) dX12_untell_35 (by decide) ?_
      exact rhF.zret (pc := 36) dX12_untell_36 rfl rfl rfl
    · refine rhF.iconst (pc := 23) (v := 0) dX12_untell_23 (by decide) ?_
      exact rhF.zret (pc := 24) dX12_untell_24 rfl rfl rfl
theorem c_X12_untell (E : rhE) (Γ : rhG) (M : rhM) (v0 : Nat) (v1 : Int32) : ∀ a, f_X12_untell Γ M v0 v1 = some a → rhC E 5 yX12_untell cX12_untell 2 (some .boolean) [rhR v0, rhI v1] Γ M ((rhe1I Γ) a) := rhF.met (by decide +kernel) (Nat.le_of_ble_eq_true rfl) (b_X12_untell M v0 v1)
def f_X12_where_28 (k45 : rhM → Nat → Int32 → Int32 → Int32 → Option (Int32 × rhM)) (Γ : rhG) : Nat → rhM → Nat → Int32 → Int32 → Int32 → Int32 → Option (Int32 × rhM)
  | 0, _, _, _, _, _, _ => none
  | n + 1, M, v0, v1, v2, v3, v4 =>
    rhck (Γ.2.2.1 v0 = 13) <|
    rhck (Γ.2.2.1 (M.2.2 v0 39) = 15) <|
    rhck (0 ≤ (v4).toInt ∧ (v4).toInt < (Γ.2.2.2 (M.2.2 v0 39) : Nat)) <|
    if (M.1 (M.2.2 v0 39) v4.toNatClampNeg) = v1 then
      (k45 M v0 v2 v3 v4)
    else
      let x11 : Int32 := v4 + 1
      f_X12_where_28 k45 Γ n M v0 v1 v2 v3 x11
def f_X12_where_45 (k62 : rhM → Nat → Int32 → Int32 → Int32 → Option (Int32 × rhM)) (Γ : rhG) : Nat → rhM → Nat → Int32 → Int32 → Int32 → Option (Int32 × rhM)
  | 0, _, _, _, _, _ => none
  | n + 1, M, v0, v2, v3, v4 =>
    rhck (Γ.2.2.1 v0 = 13) <|
    rhck (Γ.2.2.1 (M.2.2 v0 40) = 15) <|
    rhck (0 ≤ (v3).toInt ∧ (v3).toInt < (Γ.2.2.2 (M.2.2 v0 40) : Nat)) <|
    if v4 < (M.1 (M.2.2 v0 40) v3.toNatClampNeg) then
      (k62 M v0 v2 v3 v4)
    else
      let x16 : Int32 := v3 + 1
      f_X12_where_45 k62 Γ n M v0 v2 x16 v4
def f_X12_where_62 (Γ : rhG) (M : rhM) (v0 : Nat) (v2 : Int32) (v3 : Int32) (v4 : Int32) : Option (Int32 × rhM) :=
  if v2 = 0 then
    (some ((v3, M)))
  else
    rhck (Γ.2.2.1 v0 = 13) <|
    (f_X12_beginOf Γ M v0 v3).bind fun r19 =>
    some ((v4 - r19, M))
def f_X12_where (Γ : rhG) (M : rhM) (v0 : Nat) (v1 : Int32) (v2 : Int32) : Option (Int32 × rhM) :=
  rhck (Γ.2.2.1 v0 = 13) <|
  (f_X12_isHouse Γ M v0 v1).bind fun r2 =>
  if r2 = 0 then
    (some (((-1), M)))
  else
    (f_X12_isIn Γ M v2 (0 : Int32) (1 : Int32)).bind fun r4 =>
    if r4 = 0 then
      (some (((-1), M)))
    else
      (f_X12_layNow Γ M v0).bind fun r6 =>
      f_X12_where_28 (f_X12_where_45 (f_X12_where_62 Γ) Γ rhFU) Γ rhFU r6 v0 v1 v2 0 0
set_option maxHeartbeats 4000000 in
set_option maxRecDepth 100000 in
theorem b_X12_where_28 {E : rhE} {Γ : rhG} {k45 : rhM → Nat → Int32 → Int32 → Int32 → Option (Int32 × rhM)} (hk45 : ∀ (M : rhM) (v0 : Nat) (v2 : Int32) (v3 : Int32) (v4 : Int32), rhF E 6 5 yX12_where cX12_where (some .int) Γ (rhe1I Γ) (k45 M v0 v2 v3 v4) 45 [(0, rhR v0), (2, rhI v2), (3, rhI v3), (4, rhI v4)] [] Γ M) : ∀ (n : Nat) (M : rhM) (v0 : Nat) (v1 : Int32) (v2 : Int32) (v3 : Int32) (v4 : Int32), rhF E 6 5 yX12_where cX12_where (some .int) Γ (rhe1I Γ) (f_X12_where_28 k45 Γ n M v0 v1 v2 v3 v4) 28 [(0, rhR v0), (1, rhI v1), (2, rhI v2), (3, rhI v3), (4, rhI v4)] [] Γ M := by
  intro n
  induction n with
  | zero => intro M v0 v1 v2 v3 v4; rw [f_X12_where_28]; exact rhF.nope
  | succ n ih =>
    intro M v0 v1 v2 v3 v4
    rw [f_X12_where_28]
    refine rhF.aload_n (pc := 28) dX12_where_28 0 rfl ?_
    refine rhF.ck (fun h7 => ?_)
    refine rhF.get (pc := 29) (rhR _) dX12_where_29 fl_X12_92 h7 rfl ?_
    refine rhF.iload (pc := 32) dX12_where_32 4 rfl ?_
    refine rhF.ck (fun h8 => ?_)
    refine rhF.ck (fun h9 => ?_)
    refine rhF.iald (pc := 34) dX12_where_34 h8 h9 ?_
    refine rhF.iload_n (pc := 35) dX12_where_35 1 rfl ?_
    refine rhF.icmp_eq (pc := 36) 45 dX12_where_36 (by decide) (fun h10 => ?_) (fun h10 => ?_)
    · refine rhF.sub [0, 2, 3, 4] rfl ?_
      exact hk45 _ _ _ _ _
    · refine rhF.iinc (pc := 39) (L' := [(4, rhI _), (0, rhR _), (1, rhI _), (2, rhI _), (3, rhI _)]) dX12_where_39 4 rfl rfl (by decide) rfl ?_
      refine rhF.goto (pc := 42) 28 dX12_where_42 (by decide) ?_
      refine rhF.sub [1, 2, 3, 4, 0] rfl ?_
      exact ih _ _ _ _ _ _
set_option maxHeartbeats 4000000 in
set_option maxRecDepth 100000 in
theorem b_X12_where_45 {E : rhE} {Γ : rhG} {k62 : rhM → Nat → Int32 → Int32 → Int32 → Option (Int32 × rhM)} (hk62 : ∀ (M : rhM) (v0 : Nat) (v2 : Int32) (v3 : Int32) (v4 : Int32), rhF E 6 5 yX12_where cX12_where (some .int) Γ (rhe1I Γ) (k62 M v0 v2 v3 v4) 62 [(0, rhR v0), (2, rhI v2), (3, rhI v3), (4, rhI v4)] [] Γ M) : ∀ (n : Nat) (M : rhM) (v0 : Nat) (v2 : Int32) (v3 : Int32) (v4 : Int32), rhF E 6 5 yX12_where cX12_where (some .int) Γ (rhe1I Γ) (f_X12_where_45 k62 Γ n M v0 v2 v3 v4) 45 [(0, rhR v0), (2, rhI v2), (3, rhI v3), (4, rhI v4)] [] Γ M := by
  intro n
  induction n with
  | zero => intro M v0 v2 v3 v4; rw [f_X12_where_45]; exact rhF.nope
  | succ n ih =>
    intro M v0 v2 v3 v4
    rw [f_X12_where_45]
    refine rhF.aload_n (pc := 45) dX12_where_45 0 rfl ?_
    refine rhF.ck (fun h12 => ?_)
    refine rhF.get (pc := 46) (rhR _) dX12_where_46 fl_X12_95 h12 rfl ?_
    refine rhF.iload_n (pc := 49) dX12_where_49 2 rfl ?_
    refine rhF.ck (fun h13 => ?_)
    refine rhF.ck (fun h14 => ?_)
    refine rhF.iald (pc := 50) dX12_where_50 h13 h14 ?_
    refine rhF.iload (pc := 51) dX12_where_51 3 rfl ?_
    refine rhF.icmp_gt (pc := 53) 62 dX12_where_53 (by decide) (fun h15 => ?_) (fun h15 => ?_)
    · exact hk62 _ _ _ _ _
    · refine rhF.iinc (pc := 56) (L' := [(3, rhI _), (0, rhR _), (2, rhI _), (4, rhI _)]) dX12_where_56 2 rfl rfl (by decide) rfl ?_
      refine rhF.goto (pc := 59) 45 dX12_where_59 (by decide) ?_
      refine rhF.sub [1, 2, 0, 3] rfl ?_
      exact ih _ _ _ _ _
set_option maxHeartbeats 4000000 in
set_option maxRecDepth 100000 in
theorem b_X12_where_62 {E : rhE} {Γ : rhG} : ∀ (M : rhM) (v0 : Nat) (v2 : Int32) (v3 : Int32) (v4 : Int32), rhF E 6 5 yX12_where cX12_where (some .int) Γ (rhe1I Γ) (f_X12_where_62 Γ M v0 v2 v3 v4) 62 [(0, rhR v0), (2, rhI v2), (3, rhI v3), (4, rhI v4)] [] Γ M := by
  intro M v0 v2 v3 v4
  rw [f_X12_where_62]
  refine rhF.iload_n (pc := 62) dX12_where_62 1 rfl ?_
  refine rhF.if_ne (pc := 63) 70 dX12_where_63 (by decide) (fun h17 => ?_) (fun h17 => ?_)
  · refine rhF.iload_n (pc := 66) dX12_where_66 2 rfl ?_
    refine rhF.goto (pc := 67) 78 dX12_where_67 (by decide) ?_
    exact rhF.zret (pc := 78) dX12_where_78 rfl rfl rfl
  · refine rhF.iload (pc := 70) dX12_where_70 3 rfl ?_
    refine rhF.aload_n (pc := 72) dX12_where_72 0 rfl ?_
    refine rhF.iload_n (pc := 73) dX12_where_73 2 rfl ?_
    refine rhF.ck (fun h18 => ?_)
    refine rhF.callV (pc := 74) (ci := 12) (embc := rhe0I _ _) [rhI _] dX12_where_74 ml_X12_425 mv_X12_beginOf ⟨_, rfl, rfl⟩ h18 (c_X12_beginOf _ _ _ _ _) (by decide) (by decide) rfl (Nat.le_of_ble_eq_true rfl) (fun r19 _ => ?_)
    refine rhF.isub (pc := 77) dX12_where_77 ?_
    exact rhF.zret (pc := 78) dX12_where_78 rfl rfl rfl
set_option maxHeartbeats 4000000 in
set_option maxRecDepth 100000 in
theorem b_X12_where {E : rhE} {Γ : rhG} : ∀ (M : rhM) (v0 : Nat) (v1 : Int32) (v2 : Int32), rhF E 6 5 yX12_where cX12_where (some .int) Γ (rhe1I Γ) (f_X12_where Γ M v0 v1 v2) 0 [(0, rhR v0), (1, rhI v1), (2, rhI v2)] [] Γ M := by
  intro M v0 v1 v2
  rw [f_X12_where]
  refine rhF.aload_n (pc := 0) dX12_where_0 0 rfl ?_
  refine rhF.iload_n (pc := 1) dX12_where_1 1 rfl ?_
  refine rhF.ck (fun h1 => ?_)
  refine rhF.callV (pc := 2) (ci := 12) (embc := rhe0I _ _) [rhI _] dX12_where_2 ml_X12_464 mv_X12_isHouse ⟨_, rfl, rfl⟩ h1 (c_X12_isHouse _ _ _ _ _) (by decide) (by decide) rfl (Nat.le_of_ble_eq_true rfl) (fun r2 _ => ?_)
  refine rhF.if_eq (pc := 5) 17 dX12_where_5 (by decide) (fun h3 => ?_) (fun h3 => ?_)
  · refine rhF.iconst (pc := 17) (v := (-1)) dX12_where_17 (by decide) ?_
    exact rhF.zret (pc := 18) dX12_where_18 rfl rfl rfl
  · refine rhF.iload_n (pc := 8) dX12_where_8 2 rfl ?_
    refine rhF.iconst (pc := 9) (v := 0) dX12_where_9 (by decide) ?_
    refine rhF.iconst (pc := 10) (v := 1) dX12_where_10 (by decide) ?_
    refine rhF.callS (pc := 11) (embc := rhe0I _ _) [rhI _, rhI _, rhI _] dX12_where_11 ml_X12_415 ms_X12_isIn (c_X12_isIn _ _ _ _ _ _) (by decide) (by decide) rfl (Nat.le_of_ble_eq_true rfl) (fun r4 _ => ?_)
    refine rhF.if_ne (pc := 14) 19 dX12_where_14 (by decide) (fun h5 => ?_) (fun h5 => ?_)
    · refine rhF.iconst (pc := 17) (v := (-1)) dX12_where_17 (by decide) ?_
      exact rhF.zret (pc := 18) dX12_where_18 rfl rfl rfl
    · refine rhF.aload_n (pc := 19) dX12_where_19 0 rfl ?_
      refine rhF.callV (pc := 20) (ci := 12) (embc := rhe1U _) [] dX12_where_20 ml_X12_467 mv_X12_layNow ⟨_, rfl, rfl⟩ h1 (c_X12_layNow _ _ _ _) (by decide) (by decide) rfl (Nat.le_of_ble_eq_true rfl) (fun r6 _ => ?_)
      refine rhF.iconst (pc := 23) (v := 0) dX12_where_23 (by decide) ?_
      refine rhF.istore_n (pc := 24) (L' := [(3, rhI _), (0, rhR _), (1, rhI _), (2, rhI _)]) dX12_where_24 (by decide) rfl ?_
      refine rhF.iconst (pc := 25) (v := 0) dX12_where_25 (by decide) ?_
      refine rhF.istore (pc := 26) (L' := [(4, rhI _), (3, rhI _), (0, rhR _), (1, rhI _), (2, rhI _)]) dX12_where_26 (by decide) rfl ?_
      refine rhF.sub [2, 3, 4, 1, 0] rfl ?_
      exact (b_X12_where_28 (b_X12_where_45 (b_X12_where_62) rhFU) rhFU) _ _ _ _ _ _
theorem c_X12_where (E : rhE) (Γ : rhG) (M : rhM) (v0 : Nat) (v1 : Int32) (v2 : Int32) : ∀ a, f_X12_where Γ M v0 v1 v2 = some a → rhC E 6 yX12_where cX12_where 5 (some .int) [rhR v0, rhI v1, rhI v2] Γ M ((rhe1I Γ) a) := rhF.met (by decide +kernel) (Nat.le_of_ble_eq_true rfl) (b_X12_where M v0 v1 v2)
def f_X12_worth (Γ : rhG) (M : rhM) (v0 : Nat) : Option (Int32 × rhM) :=
  rhck (Γ.2.2.1 v0 = 13) <|
  (f_X12_layNow Γ M v0).bind fun r2 =>
  (f_X12_worthOfRow Γ r2 v0).bind fun r3 =>
  some ((r3, r2))
set_option maxHeartbeats 4000000 in
set_option maxRecDepth 100000 in
theorem b_X12_worth {E : rhE} {Γ : rhG} : ∀ (M : rhM) (v0 : Nat), rhF E 6 1 yX12_worth cX12_worth (some .int) Γ (rhe1I Γ) (f_X12_worth Γ M v0) 0 [(0, rhR v0)] [] Γ M := by
  intro M v0
  rw [f_X12_worth]
  refine rhF.aload_n (pc := 0) dX12_worth_0 0 rfl ?_
  refine rhF.ck (fun h1 => ?_)
  refine rhF.callV (pc := 1) (ci := 12) (embc := rhe1U _) [] dX12_worth_1 ml_X12_467 mv_X12_layNow ⟨_, rfl, rfl⟩ h1 (c_X12_layNow _ _ _ _) (by decide) (by decide) rfl (Nat.le_of_ble_eq_true rfl) (fun r2 _ => ?_)
  refine rhF.aload_n (pc := 4) dX12_worth_4 0 rfl ?_
  refine rhF.callV (pc := 5) (ci := 12) (embc := rhe0I _ _) [] dX12_worth_5 ml_X12_478 mv_X12_worthOfRow ⟨_, rfl, rfl⟩ h1 (c_X12_worthOfRow _ _ _ _) (by decide) (by decide) rfl (Nat.le_of_ble_eq_true rfl) (fun r3 _ => ?_)
  exact rhF.zret (pc := 8) dX12_worth_8 rfl rfl rfl
theorem c_X12_worth (E : rhE) (Γ : rhG) (M : rhM) (v0 : Nat) : ∀ a, f_X12_worth Γ M v0 = some a → rhC E 6 yX12_worth cX12_worth 1 (some .int) [rhR v0] Γ M ((rhe1I Γ) a) := rhF.met (by decide +kernel) (Nat.le_of_ble_eq_true rfl) (b_X12_worth M v0)
