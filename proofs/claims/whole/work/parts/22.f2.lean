def f_X9_worthOf_57 (k8 : Nat → Int64 → Int32 → Int32 → Int32 → Option (Int32)) (Γ : rhG) (M : rhM) (v0 : Nat) (v1 : Int64) (v3 : Int32) (v5 : Int32) (v6 : Int32) : Option (Int32) :=
  let x6 : Int32 := v5 + 1
  k8 v0 v1 v3 v6 x6
def f_X9_worthOf_8 (Γ : rhG) (M : rhM) : Nat → Nat → Int64 → Int32 → Int32 → Int32 → Option (Int32)
  | 0, _, _, _, _, _ => none
  | n + 1, v0, v1, v3, v4, v5 =>
    rhck (Γ.2.2.1 v0 = 10) <|
    if v5 < (M.1 v0 1) then
      ((f_X7_digitOf Γ M v1 v5).bind fun r3 =>
      if r3 < 8 then
        (if v4 = ((-1)) then
          (f_X9_worthOf_57 (f_X9_worthOf_8 Γ M n) Γ M v0 v1 v3 v5 r3)
        else
          rhck (Γ.2.2.1 (M.2.2 v0 9) = 15) <|
          rhck (0 ≤ ((v4 * 8) + r3).toInt ∧ ((v4 * 8) + r3).toInt < (Γ.2.2.2 (M.2.2 v0 9) : Nat)) <|
          let x9 := v3 + (M.1 (M.2.2 v0 9) ((v4 * 8) + r3).toNatClampNeg)
          f_X9_worthOf_57 (f_X9_worthOf_8 Γ M n) Γ M v0 v1 x9 v5 r3)
      else
        some v3)
    else
      some v3
def f_X9_worthOf (Γ : rhG) (M : rhM) (v0 : Nat) (v1 : Int64) : Option (Int32) :=
  f_X9_worthOf_8 Γ M rhFU v0 v1 0 ((-1)) 0
set_option maxHeartbeats 4000000 in
set_option maxRecDepth 100000 in
theorem b_X9_worthOf_57 {E : rhE} {Γ : rhG} {M : rhM} {k8 : Nat → Int64 → Int32 → Int32 → Int32 → Option (Int32)} (hk8 : ∀ (v0 : Nat) (v1 : Int64) (v3 : Int32) (v4 : Int32) (v5 : Int32), rhF E 5 7 yX9_worthOf cX9_worthOf (some .int) Γ (rhe0I Γ M) (k8 v0 v1 v3 v4 v5) 8 [(0, rhR v0), (1, rhJ v1), (3, rhI v3), (4, rhI v4), (5, rhI v5)] [] Γ M) : ∀ (v0 : Nat) (v1 : Int64) (v3 : Int32) (v5 : Int32) (v6 : Int32), rhF E 5 7 yX9_worthOf cX9_worthOf (some .int) Γ (rhe0I Γ M) (f_X9_worthOf_57 k8 Γ M v0 v1 v3 v5 v6) 57 [(0, rhR v0), (1, rhJ v1), (3, rhI v3), (5, rhI v5), (6, rhI v6)] [] Γ M := by
  intro v0 v1 v3 v5 v6
  rw [f_X9_worthOf_57]
  refine rhF.iload (pc := 57) dX9_worthOf_57 4 rfl ?_
  refine rhF.istore (pc := 59) (L' := [(4, rhI _), (0, rhR _), (1, rhJ _), (3, rhI _), (5, rhI _), (6, rhI _)]) dX9_worthOf_59 (by decide) rfl ?_
  refine rhF.iinc (pc := 61) (L' := [(5, rhI _), (4, rhI _), (0, rhR _), (1, rhJ _), (3, rhI _), (6, rhI _)]) dX9_worthOf_61 4 rfl rfl (by decide) rfl ?_
  refine rhF.goto (pc := 64) 8 dX9_worthOf_64 (by decide) ?_
  refine rhF.sub [2, 3, 4, 1, 0] rfl ?_
  exact hk8 _ _ _ _ _
set_option maxHeartbeats 4000000 in
set_option maxRecDepth 100000 in
theorem b_X9_worthOf_8 {E : rhE} {Γ : rhG} {M : rhM} : ∀ (n : Nat) (v0 : Nat) (v1 : Int64) (v3 : Int32) (v4 : Int32) (v5 : Int32), rhF E 5 7 yX9_worthOf cX9_worthOf (some .int) Γ (rhe0I Γ M) (f_X9_worthOf_8 Γ M n v0 v1 v3 v4 v5) 8 [(0, rhR v0), (1, rhJ v1), (3, rhI v3), (4, rhI v4), (5, rhI v5)] [] Γ M := by
  intro n
  induction n with
  | zero => intro v0 v1 v3 v4 v5; rw [f_X9_worthOf_8]; exact rhF.nope
  | succ n ih =>
    intro v0 v1 v3 v4 v5
    rw [f_X9_worthOf_8]
    refine rhF.iload (pc := 8) dX9_worthOf_8 4 rfl ?_
    refine rhF.aload_n (pc := 10) dX9_worthOf_10 0 rfl ?_
    refine rhF.ck (fun h1 => ?_)
    refine rhF.get (pc := 11) (rhI _) dX9_worthOf_11 fl_X9_42 h1 rfl ?_
    refine rhF.icmp_ge (pc := 14) 67 dX9_worthOf_14 (by decide) (fun h2 => ?_) (fun h2 => ?_)
    · refine rhF.lload_n (pc := 17) dX9_worthOf_17 1 rfl ?_
      refine rhF.iload (pc := 18) dX9_worthOf_18 4 rfl ?_
      refine rhF.callS (pc := 20) (embc := rhe0I _ _) [rhJ _, rhI _] dX9_worthOf_20 ml_X9_67 ms_X7_digitOf (c_X7_digitOf _ _ _ _ _) (by decide) (by decide) rfl (Nat.le_of_ble_eq_true rfl) (fun r3 _ => ?_)
      refine rhF.istore (pc := 23) (L' := [(6, rhI _), (0, rhR _), (1, rhJ _), (3, rhI _), (4, rhI _), (5, rhI _)]) dX9_worthOf_23 (by decide) rfl ?_
      refine rhF.iload (pc := 25) dX9_worthOf_25 0 rfl ?_
      refine rhF.bipush (pc := 27) (v := 8) dX9_worthOf_27 (by decide) ?_
      refine rhF.icmp_lt (pc := 29) 35 dX9_worthOf_29 (by decide) (fun h4 => ?_) (fun h4 => ?_)
      · refine rhF.iload (pc := 35) dX9_worthOf_35 4 rfl ?_
        refine rhF.iconst (pc := 37) (v := (-1)) dX9_worthOf_37 (by decide) ?_
        refine rhF.icmp_eq (pc := 38) 57 dX9_worthOf_38 (by decide) (fun h5 => ?_) (fun h5 => ?_)
        · refine rhF.sub [1, 2, 3, 5, 0] rfl ?_
          exact (b_X9_worthOf_57 ih) _ _ _ _ _
        · refine rhF.iload_n (pc := 41) dX9_worthOf_41 3 rfl ?_
          refine rhF.aload_n (pc := 42) dX9_worthOf_42 1 rfl ?_
          refine rhF.get (pc := 43) (rhR _) dX9_worthOf_43 fl_X9_21 h1 rfl ?_
          refine rhF.iload (pc := 46) dX9_worthOf_46 4 rfl ?_
          refine rhF.bipush (pc := 48) (v := 8) dX9_worthOf_48 (by decide) ?_
          refine rhF.imul (pc := 50) dX9_worthOf_50 ?_
          refine rhF.iload (pc := 51) dX9_worthOf_51 0 rfl ?_
          refine rhF.iadd (pc := 53) dX9_worthOf_53 ?_
          refine rhF.ck (fun h7 => ?_)
          refine rhF.ck (fun h8 => ?_)
          refine rhF.iald (pc := 54) dX9_worthOf_54 h7 h8 ?_
          refine rhF.iadd (pc := 55) dX9_worthOf_55 ?_
          refine rhF.istore_n (pc := 56) (L' := [(3, rhI _), (6, rhI _), (0, rhR _), (1, rhJ _), (4, rhI _), (5, rhI _)]) dX9_worthOf_56 (by decide) rfl ?_
          refine rhF.sub [2, 3, 0, 5, 1] rfl ?_
          exact (b_X9_worthOf_57 ih) _ _ _ _ _
      · refine rhF.goto (pc := 32) 67 dX9_worthOf_32 (by decide) ?_
        refine rhF.iload_n (pc := 67) dX9_worthOf_67 3 rfl ?_
        exact rhF.zret (pc := 68) dX9_worthOf_68 rfl rfl rfl
    · refine rhF.iload_n (pc := 67) dX9_worthOf_67 2 rfl ?_
      exact rhF.zret (pc := 68) dX9_worthOf_68 rfl rfl rfl
set_option maxHeartbeats 4000000 in
set_option maxRecDepth 100000 in
theorem b_X9_worthOf {E : rhE} {Γ : rhG} {M : rhM} : ∀ (v0 : Nat) (v1 : Int64), rhF E 5 7 yX9_worthOf cX9_worthOf (some .int) Γ (rhe0I Γ M) (f_X9_worthOf Γ M v0 v1) 0 [(0, rhR v0), (1, rhJ v1)] [] Γ M := by
  intro v0 v1
  rw [f_X9_worthOf]
  refine rhF.iconst (pc := 0) (v := 0) dX9_worthOf_0 (by decide) ?_
  refine rhF.istore_n (pc := 1) (L' := [(3, rhI _), (0, rhR _), (1, rhJ _)]) dX9_worthOf_1 (by decide) rfl ?_
  refine rhF.iconst (pc := 2) (v := (-1)) dX9_worthOf_2 (by decide) ?_
  refine rhF.istore (pc := 3) (L' := [(4, rhI _), (3, rhI _), (0, rhR _), (1, rhJ _)]) dX9_worthOf_3 (by decide) rfl ?_
  refine rhF.iconst (pc := 5) (v := 0) dX9_worthOf_5 (by decide) ?_
  refine rhF.istore (pc := 6) (L' := [(5, rhI _), (4, rhI _), (3, rhI _), (0, rhR _), (1, rhJ _)]) dX9_worthOf_6 (by decide) rfl ?_
  refine rhF.sub [3, 4, 2, 1, 0] rfl ?_
  exact (b_X9_worthOf_8 rhFU) _ _ _ _ _
theorem c_X9_worthOf (E : rhE) (Γ : rhG) (M : rhM) (v0 : Nat) (v1 : Int64) : ∀ a, f_X9_worthOf Γ M v0 v1 = some a → rhC E 5 yX9_worthOf cX9_worthOf 7 (some .int) [rhR v0, rhJ v1] Γ M ((rhe0I Γ M) a) := rhF.met (by decide +kernel) (Nat.le_of_ble_eq_true rfl) (b_X9_worthOf v0 v1)
def f_X5_isMet (Γ : rhG) (M : rhM) (v0 : Nat) (v1 : Int32) : Option (Int32 × rhM) :=
  rhck (Γ.2.2.1 v0 = 6) <|
  rhck (Γ.2.2.1 (M.2.2 v0 2) = 1) <|
  rhck (Γ.2.2.1 (M.2.2 (M.2.2 v0 2) 1) = 16) <|
  rhck (0 ≤ (v1).toInt ∧ (v1).toInt < (Γ.2.2.2 (M.2.2 (M.2.2 v0 2) 1) : Nat)) <|
  let x5 := M.2.1 (M.2.2 (M.2.2 v0 2) 1) v1.toNatClampNeg
  if (M.1 v0 7) = 0 then
    (if (x5 &&& (M.2.1 v0 9)) = (M.2.1 v0 8) then
      (some ((1, M)))
    else
      some ((0, M)))
  else
  if (M.1 v0 7) = 1 then
    ((f_X5_isAlone Γ M v0 x5).bind fun r9 =>
    rhck (r9 = 0 ∨ r9 = 1) <|
    some ((r9, M)))
  else
  rhck (Γ.2.2.1 (M.2.2 v0 6) = 10) <|
  (f_X9_worthOf Γ M (M.2.2 v0 6) x5).bind fun r12 =>
  (f_X5_keepBest Γ M v0 v1 r12).bind fun r13 =>
  some ((0, r13))
set_option maxHeartbeats 4000000 in
set_option maxRecDepth 100000 in
theorem b_X5_isMet {E : rhE} {Γ : rhG} : ∀ (M : rhM) (v0 : Nat) (v1 : Int32), rhF E 6 4 yX5_isMet cX5_isMet (some .boolean) Γ (rhe1I Γ) (f_X5_isMet Γ M v0 v1) 0 [(0, rhR v0), (1, rhI v1)] [] Γ M := by
  intro M v0 v1
  rw [f_X5_isMet]
  refine rhF.aload_n (pc := 0) dX5_isMet_0 0 rfl ?_
  refine rhF.ck (fun h1 => ?_)
  refine rhF.get (pc := 1) (rhR _) dX5_isMet_1 fl_X5_32 h1 rfl ?_
  refine rhF.ck (fun h2 => ?_)
  refine rhF.get (pc := 4) (rhR _) dX5_isMet_4 fl_X5_126 h2 rfl ?_
  refine rhF.iload_n (pc := 7) dX5_isMet_7 1 rfl ?_
  refine rhF.ck (fun h3 => ?_)
  refine rhF.ck (fun h4 => ?_)
  refine rhF.lald (pc := 8) dX5_isMet_8 h3 h4 ?_
  refine rhF.lstore_n (pc := 9) (L' := [(2, rhJ _), (0, rhR _), (1, rhI _)]) dX5_isMet_9 (by decide) rfl ?_
  refine rhF.aload_n (pc := 10) dX5_isMet_10 1 rfl ?_
  refine rhF.get (pc := 11) (rhI _) dX5_isMet_11 fl_X5_60 h1 rfl ?_
  refine rhF.ite (fun h6 => ?_) (fun h6 => ?_)
  · refine rhF.ls (pc := 14) 40 dX5_isMet_14 (by decide) (by rw [h6] <;> rfl) (by decide) ?_
    refine rhF.lload_n (pc := 40) dX5_isMet_40 0 rfl ?_
    refine rhF.aload_n (pc := 41) dX5_isMet_41 1 rfl ?_
    refine rhF.get (pc := 42) (rhJ _) dX5_isMet_42 fl_X5_71 h1 rfl ?_
    refine rhF.land (pc := 45) dX5_isMet_45 ?_
    refine rhF.aload_n (pc := 46) dX5_isMet_46 1 rfl ?_
    refine rhF.get (pc := 47) (rhJ _) dX5_isMet_47 fl_X5_63 h1 rfl ?_
    refine rhF.lcne (pc := 50) 58 dX5_isMet_50 dX5_isMet_51 (by decide) (fun h7 => ?_) (fun h7 => ?_)
    · refine rhF.iconst (pc := 54) (v := 1) dX5_isMet_54 (by decide) ?_
      refine rhF.goto (pc := 55) 59 dX5_isMet_55 (by decide) ?_
      exact rhF.zret (pc := 59) dX5_isMet_59 rfl rfl rfl
    · refine rhF.iconst (pc := 58) (v := 0) dX5_isMet_58 (by decide) ?_
      exact rhF.zret (pc := 59) dX5_isMet_59 rfl rfl rfl
  · skip
    refine rhF.ite (fun h8 => ?_) (fun h8 => ?_)
    · refine rhF.ls (pc := 14) 60 dX5_isMet_14 (by decide) (by rw [h8] <;> rfl) (by decide) ?_
      refine rhF.aload_n (pc := 60) dX5_isMet_60 1 rfl ?_
      refine rhF.lload_n (pc := 61) dX5_isMet_61 0 rfl ?_
      refine rhF.callV (pc := 62) (ci := 5) (embc := rhe0I _ _) [rhJ _] dX5_isMet_62 ml_X5_147 mv_X5_isAlone ⟨_, rfl, rfl⟩ h1 (c_X5_isAlone _ _ _ _ _) (by decide) (by decide) rfl (Nat.le_of_ble_eq_true rfl) (fun r9 _ => ?_)
      refine rhF.ck (fun h10 => ?_)
      exact rhF.zret (pc := 65) dX5_isMet_65 rfl (rhzb h10) rfl
    · skip
      refine rhF.ls (pc := 14) 66 dX5_isMet_14 (by decide) (rhlkd _ _ _ (List.forall_mem_cons.mpr ⟨rhne h6 (n := 0) (by decide), List.forall_mem_cons.mpr ⟨rhne h8 (n := 1) (by decide), fun _ h => absurd h List.not_mem_nil⟩⟩)) (by decide) ?_
      refine rhF.aload_n (pc := 66) dX5_isMet_66 1 rfl ?_
      refine rhF.iload_n (pc := 67) dX5_isMet_67 2 rfl ?_
      refine rhF.aload_n (pc := 68) dX5_isMet_68 1 rfl ?_
      refine rhF.get (pc := 69) (rhR _) dX5_isMet_69 fl_X5_88 h1 rfl ?_
      refine rhF.lload_n (pc := 72) dX5_isMet_72 0 rfl ?_
      refine rhF.ck (fun h11 => ?_)
      refine rhF.callV (pc := 73) (ci := 9) (embc := rhe0I _ _) [rhJ _] dX5_isMet_73 ml_X5_151 mv_X9_worthOf ⟨_, rfl, rfl⟩ h11 (c_X9_worthOf _ _ _ _ _) (by decide) (by decide) rfl (Nat.le_of_ble_eq_true rfl) (fun r12 _ => ?_)
      refine rhF.callV (pc := 76) (ci := 5) (embc := rhe1U _) [rhI _, rhI _] dX5_isMet_76 ml_X5_154 mv_X5_keepBest ⟨_, rfl, rfl⟩ h1 (c_X5_keepBest _ _ _ _ _ _) (by decide) (by decide) rfl (Nat.le_of_ble_eq_true rfl) (fun r13 _ => ?_)
      refine rhF.iconst (pc := 79) (v := 0) dX5_isMet_79 (by decide) ?_
      exact rhF.zret (pc := 80) dX5_isMet_80 rfl rfl rfl
theorem c_X5_isMet (E : rhE) (Γ : rhG) (M : rhM) (v0 : Nat) (v1 : Int32) : ∀ a, f_X5_isMet Γ M v0 v1 = some a → rhC E 6 yX5_isMet cX5_isMet 4 (some .boolean) [rhR v0, rhI v1] Γ M ((rhe1I Γ) a) := rhF.met (by decide +kernel) (Nat.le_of_ble_eq_true rfl) (b_X5_isMet M v0 v1)
def f_X5_leadsAhead (Γ : rhG) (M : rhM) (v0 : Nat) (v1 : Int32) (v2 : Int32) : Option (Int32) :=
  rhck (Γ.2.2.1 v0 = 6) <|
  rhck (Γ.2.2.1 (M.2.2 v0 2) = 1) <|
  rhck (Γ.2.2.1 (M.2.2 (M.2.2 v0 2) 4) = 15) <|
  rhck (0 ≤ (v1).toInt ∧ (v1).toInt < (Γ.2.2.2 (M.2.2 (M.2.2 v0 2) 4) : Nat)) <|
  rhck (0 ≤ (v2).toInt ∧ (v2).toInt < (Γ.2.2.2 (M.2.2 (M.2.2 v0 2) 4) : Nat)) <|
  if (M.1 (M.2.2 (M.2.2 v0 2) 4) v1.toNatClampNeg) = (M.1 (M.2.2 (M.2.2 v0 2) 4) v2.toNatClampNeg) then
    ((f_X0_isAhead Γ M (M.2.2 v0 2) v1 v2).bind fun r7 =>
    rhck (r7 = 0 ∨ r7 = 1) <|
    some r7)
  else
    if (M.1 (M.2.2 (M.2.2 v0 2) 4) v1.toNatClampNeg) < (M.1 (M.2.2 (M.2.2 v0 2) 4) v2.toNatClampNeg) then
      (some 1)
    else
      some 0
set_option maxHeartbeats 4000000 in
set_option maxRecDepth 100000 in
theorem b_X5_leadsAhead {E : rhE} {Γ : rhG} {M : rhM} : ∀ (v0 : Nat) (v1 : Int32) (v2 : Int32), rhF E 5 3 yX5_leadsAhead cX5_leadsAhead (some .boolean) Γ (rhe0I Γ M) (f_X5_leadsAhead Γ M v0 v1 v2) 0 [(0, rhR v0), (1, rhI v1), (2, rhI v2)] [] Γ M := by
  intro v0 v1 v2
  rw [f_X5_leadsAhead]
  refine rhF.aload_n (pc := 0) dX5_leadsAhead_0 0 rfl ?_
  refine rhF.ck (fun h1 => ?_)
  refine rhF.get (pc := 1) (rhR _) dX5_leadsAhead_1 fl_X5_32 h1 rfl ?_
  refine rhF.ck (fun h2 => ?_)
  refine rhF.get (pc := 4) (rhR _) dX5_leadsAhead_4 fl_X5_77 h2 rfl ?_
  refine rhF.iload_n (pc := 7) dX5_leadsAhead_7 1 rfl ?_
  refine rhF.ck (fun h3 => ?_)
  refine rhF.ck (fun h4 => ?_)
  refine rhF.iald (pc := 8) dX5_leadsAhead_8 h3 h4 ?_
  refine rhF.aload_n (pc := 9) dX5_leadsAhead_9 0 rfl ?_
  refine rhF.get (pc := 10) (rhR _) dX5_leadsAhead_10 fl_X5_32 h1 rfl ?_
  refine rhF.get (pc := 13) (rhR _) dX5_leadsAhead_13 fl_X5_77 h2 rfl ?_
  refine rhF.iload_n (pc := 16) dX5_leadsAhead_16 2 rfl ?_
  refine rhF.ck (fun h5 => ?_)
  refine rhF.iald (pc := 17) dX5_leadsAhead_17 h3 h5 ?_
  refine rhF.icmp_eq (pc := 18) 48 dX5_leadsAhead_18 (by decide) (fun h6 => ?_) (fun h6 => ?_)
  · refine rhF.aload_n (pc := 48) dX5_leadsAhead_48 0 rfl ?_
    refine rhF.get (pc := 49) (rhR _) dX5_leadsAhead_49 fl_X5_32 h1 rfl ?_
    refine rhF.iload_n (pc := 52) dX5_leadsAhead_52 1 rfl ?_
    refine rhF.iload_n (pc := 53) dX5_leadsAhead_53 2 rfl ?_
    refine rhF.callV (pc := 54) (ci := 0) (embc := rhe0I _ _) [rhI _, rhI _] dX5_leadsAhead_54 ml_X5_188 mv_X0_isAhead ⟨_, rfl, rfl⟩ h2 (c_X0_isAhead _ _ _ _ _ _) (by decide) (by decide) rfl (Nat.le_of_ble_eq_true rfl) (fun r7 _ => ?_)
    refine rhF.ck (fun h8 => ?_)
    exact rhF.zret (pc := 57) dX5_leadsAhead_57 rfl (rhzb h8) rfl
  · refine rhF.aload_n (pc := 21) dX5_leadsAhead_21 0 rfl ?_
    refine rhF.get (pc := 22) (rhR _) dX5_leadsAhead_22 fl_X5_32 h1 rfl ?_
    refine rhF.get (pc := 25) (rhR _) dX5_leadsAhead_25 fl_X5_77 h2 rfl ?_
    refine rhF.iload_n (pc := 28) dX5_leadsAhead_28 1 rfl ?_
    refine rhF.iald (pc := 29) dX5_leadsAhead_29 h3 h4 ?_
    refine rhF.aload_n (pc := 30) dX5_leadsAhead_30 0 rfl ?_
    refine rhF.get (pc := 31) (rhR _) dX5_leadsAhead_31 fl_X5_32 h1 rfl ?_
    refine rhF.get (pc := 34) (rhR _) dX5_leadsAhead_34 fl_X5_77 h2 rfl ?_
    refine rhF.iload_n (pc := 37) dX5_leadsAhead_37 2 rfl ?_
    refine rhF.iald (pc := 38) dX5_leadsAhead_38 h3 h5 ?_
    refine rhF.icmp_ge (pc := 39) 46 dX5_leadsAhead_39 (by decide) (fun h9 => ?_) (fun h9 => ?_)
    · refine rhF.iconst (pc := 42) (v := 1) dX5_leadsAhead_42 (by decide) ?_
      refine rhF.goto (pc := 43) 47 dX5_leadsAhead_43 (by decide) ?_
      exact rhF.zret (pc := 47) dX5_leadsAhead_47 rfl rfl rfl
    · refine rhF.iconst (pc := 46) (v := 0) dX5_leadsAhead_46 (by decide) ?_
      exact rhF.zret (pc := 47) dX5_leadsAhead_47 rfl rfl rfl
theorem c_X5_leadsAhead (E : rhE) (Γ : rhG) (M : rhM) (v0 : Nat) (v1 : Int32) (v2 : Int32) : ∀ a, f_X5_leadsAhead Γ M v0 v1 v2 = some a → rhC E 5 yX5_leadsAhead cX5_leadsAhead 3 (some .boolean) [rhR v0, rhI v1, rhI v2] Γ M ((rhe0I Γ M) a) := rhF.met (by decide +kernel) (Nat.le_of_ble_eq_true rfl) (b_X5_leadsAhead v0 v1 v2)
def f_X5_bestMet_52 (k14 : rhM → Nat → Int32 → Int32 → Int32 → Option (Int32 × rhM)) (Γ : rhG) (M : rhM) (v0 : Nat) (v2 : Int32) (v3 : Int32) (v4 : Int32) : Option (Int32 × rhM) :=
  rhck (Γ.2.2.1 v0 = 6) <|
  rhck (Γ.2.2.1 (M.2.2 v0 3) = 11) <|
  (f_X10_behind Γ M (M.2.2 v0 3) v3).bind fun r11 =>
  let x12 : Int32 := v4 + 1
  k14 M v0 v2 r11 x12
def f_X5_bestMet_50 (k52 : rhM → Nat → Int32 → Int32 → Int32 → Option (Int32 × rhM)) (Γ : rhG) (M : rhM) (v0 : Nat) (v3 : Int32) (v4 : Int32) : Option (Int32 × rhM) :=
  k52 M v0 v3 v3 v4
def f_X5_bestMet_14 (Γ : rhG) : Nat → rhM → Nat → Int32 → Int32 → Int32 → Option (Int32 × rhM)
  | 0, _, _, _, _, _ => none
  | n + 1, M, v0, v2, v3, v4 =>
    rhck (Γ.2.2.1 v0 = 6) <|
    if v4 < (M.1 v0 0) then
      (if v3 = ((-1)) then
        (some ((v2, M)))
      else
        (f_X5_isMet Γ M v0 v3).bind fun r7 =>
        if r7.1 = 0 then
          (f_X5_bestMet_52 (f_X5_bestMet_14 Γ n) Γ r7.2 v0 v2 v3 v4)
        else
          if v2 = ((-1)) then
            (f_X5_bestMet_50 (f_X5_bestMet_52 (f_X5_bestMet_14 Γ n) Γ) Γ r7.2 v0 v3 v4)
          else
            (f_X5_leadsAhead Γ r7.2 v0 v3 v2).bind fun r14 =>
            if r14 = 0 then
              (f_X5_bestMet_52 (f_X5_bestMet_14 Γ n) Γ r7.2 v0 v2 v3 v4)
            else
              f_X5_bestMet_50 (f_X5_bestMet_52 (f_X5_bestMet_14 Γ n) Γ) Γ r7.2 v0 v3 v4)
    else
      some ((v2, M))
def f_X5_bestMet (Γ : rhG) (M : rhM) (v0 : Nat) (v1 : Int32) : Option (Int32 × rhM) :=
  rhck (Γ.2.2.1 v0 = 6) <|
  rhck (Γ.2.2.1 (M.2.2 v0 3) = 11) <|
  (f_X10_headOf Γ M (M.2.2 v0 3) v1).bind fun r3 =>
  f_X5_bestMet_14 Γ rhFU M v0 ((-1)) r3 0
set_option maxHeartbeats 4000000 in
set_option maxRecDepth 100000 in
theorem b_X5_bestMet_52 {E : rhE} {Γ : rhG} {k14 : rhM → Nat → Int32 → Int32 → Int32 → Option (Int32 × rhM)} (hk14 : ∀ (M : rhM) (v0 : Nat) (v2 : Int32) (v3 : Int32) (v4 : Int32), rhF E 7 5 yX5_bestMet cX5_bestMet (some .int) Γ (rhe1I Γ) (k14 M v0 v2 v3 v4) 14 [(0, rhR v0), (2, rhI v2), (3, rhI v3), (4, rhI v4)] [] Γ M) : ∀ (M : rhM) (v0 : Nat) (v2 : Int32) (v3 : Int32) (v4 : Int32), rhF E 7 5 yX5_bestMet cX5_bestMet (some .int) Γ (rhe1I Γ) (f_X5_bestMet_52 k14 Γ M v0 v2 v3 v4) 52 [(0, rhR v0), (2, rhI v2), (3, rhI v3), (4, rhI v4)] [] Γ M := by
  intro M v0 v2 v3 v4
  rw [f_X5_bestMet_52]
  refine rhF.aload_n (pc := 52) dX5_bestMet_52 0 rfl ?_
  refine rhF.ck (fun h9 => ?_)
  refine rhF.get (pc := 53) (rhR _) dX5_bestMet_53 fl_X5_39 h9 rfl ?_
  refine rhF.iload_n (pc := 56) dX5_bestMet_56 2 rfl ?_
  refine rhF.ck (fun h10 => ?_)
  refine rhF.callV (pc := 57) (ci := 10) (embc := rhe0I _ _) [rhI _] dX5_bestMet_57 ml_X5_185 mv_X10_behind ⟨_, rfl, rfl⟩ h10 (c_X10_behind _ _ _ _ _) (by decide) (by decide) rfl (Nat.le_of_ble_eq_true rfl) (fun r11 _ => ?_)
  refine rhF.istore_n (pc := 60) (L' := [(3, rhI _), (0, rhR _), (2, rhI _), (4, rhI _)]) dX5_bestMet_60 (by decide) rfl ?_
  refine rhF.iinc (pc := 61) (L' := [(4, rhI _), (3, rhI _), (0, rhR _), (2, rhI _)]) dX5_bestMet_61 3 rfl rfl (by decide) rfl ?_
  refine rhF.goto (pc := 64) 14 dX5_bestMet_64 (by decide) ?_
  refine rhF.sub [2, 3, 1, 0] rfl ?_
  exact hk14 _ _ _ _ _
set_option maxHeartbeats 4000000 in
set_option maxRecDepth 100000 in
theorem b_X5_bestMet_50 {E : rhE} {Γ : rhG} {k52 : rhM → Nat → Int32 → Int32 → Int32 → Option (Int32 × rhM)} (hk52 : ∀ (M : rhM) (v0 : Nat) (v2 : Int32) (v3 : Int32) (v4 : Int32), rhF E 7 5 yX5_bestMet cX5_bestMet (some .int) Γ (rhe1I Γ) (k52 M v0 v2 v3 v4) 52 [(0, rhR v0), (2, rhI v2), (3, rhI v3), (4, rhI v4)] [] Γ M) : ∀ (M : rhM) (v0 : Nat) (v3 : Int32) (v4 : Int32), rhF E 7 5 yX5_bestMet cX5_bestMet (some .int) Γ (rhe1I Γ) (f_X5_bestMet_50 k52 Γ M v0 v3 v4) 50 [(0, rhR v0), (3, rhI v3), (4, rhI v4)] [] Γ M := by
  intro M v0 v3 v4
  rw [f_X5_bestMet_50]
  refine rhF.iload_n (pc := 50) dX5_bestMet_50 1 rfl ?_
  refine rhF.istore_n (pc := 51) (L' := [(2, rhI _), (0, rhR _), (3, rhI _), (4, rhI _)]) dX5_bestMet_51 (by decide) rfl ?_
  refine rhF.sub [1, 0, 2, 3] rfl ?_
  exact hk52 _ _ _ _ _
set_option maxHeartbeats 4000000 in
set_option maxRecDepth 100000 in
theorem b_X5_bestMet_14 {E : rhE} {Γ : rhG} : ∀ (n : Nat) (M : rhM) (v0 : Nat) (v2 : Int32) (v3 : Int32) (v4 : Int32), rhF E 7 5 yX5_bestMet cX5_bestMet (some .int) Γ (rhe1I Γ) (f_X5_bestMet_14 Γ n M v0 v2 v3 v4) 14 [(0, rhR v0), (2, rhI v2), (3, rhI v3), (4, rhI v4)] [] Γ M := by
  intro n
  induction n with
  | zero => intro M v0 v2 v3 v4; rw [f_X5_bestMet_14]; exact rhF.nope
  | succ n ih =>
    intro M v0 v2 v3 v4
    rw [f_X5_bestMet_14]
    refine rhF.iload (pc := 14) dX5_bestMet_14 3 rfl ?_
    refine rhF.aload_n (pc := 16) dX5_bestMet_16 0 rfl ?_
    refine rhF.ck (fun h4 => ?_)
    refine rhF.get (pc := 17) (rhI _) dX5_bestMet_17 fl_X5_24 h4 rfl ?_
    refine rhF.icmp_ge (pc := 20) 67 dX5_bestMet_20 (by decide) (fun h5 => ?_) (fun h5 => ?_)
    · refine rhF.iload_n (pc := 23) dX5_bestMet_23 2 rfl ?_
      refine rhF.iconst (pc := 24) (v := (-1)) dX5_bestMet_24 (by decide) ?_
      refine rhF.icmp_eq (pc := 25) 67 dX5_bestMet_25 (by decide) (fun h6 => ?_) (fun h6 => ?_)
      · refine rhF.iload_n (pc := 67) dX5_bestMet_67 1 rfl ?_
        exact rhF.zret (pc := 68) dX5_bestMet_68 rfl rfl rfl
      · refine rhF.aload_n (pc := 28) dX5_bestMet_28 0 rfl ?_
        refine rhF.iload_n (pc := 29) dX5_bestMet_29 2 rfl ?_
        refine rhF.callV (pc := 30) (ci := 5) (embc := rhe1I _) [rhI _] dX5_bestMet_30 ml_X5_115 mv_X5_isMet ⟨_, rfl, rfl⟩ h4 (c_X5_isMet _ _ _ _ _) (by decide) (by decide) rfl (Nat.le_of_ble_eq_true rfl) (fun r7 _ => ?_)
        refine rhF.if_eq (pc := 33) 52 dX5_bestMet_33 (by decide) (fun h8 => ?_) (fun h8 => ?_)
        · exact (b_X5_bestMet_52 ih) _ _ _ _ _
        · refine rhF.iload_n (pc := 36) dX5_bestMet_36 1 rfl ?_
          refine rhF.iconst (pc := 37) (v := (-1)) dX5_bestMet_37 (by decide) ?_
          refine rhF.icmp_eq (pc := 38) 50 dX5_bestMet_38 (by decide) (fun h13 => ?_) (fun h13 => ?_)
          · refine rhF.sub [0, 2, 3] rfl ?_
            exact (b_X5_bestMet_50 (b_X5_bestMet_52 ih)) _ _ _ _
          · refine rhF.aload_n (pc := 41) dX5_bestMet_41 0 rfl ?_
            refine rhF.iload_n (pc := 42) dX5_bestMet_42 2 rfl ?_
            refine rhF.iload_n (pc := 43) dX5_bestMet_43 1 rfl ?_
            refine rhF.callV (pc := 44) (ci := 5) (embc := rhe0I _ _) [rhI _, rhI _] dX5_bestMet_44 ml_X5_181 mv_X5_leadsAhead ⟨_, rfl, rfl⟩ h4 (c_X5_leadsAhead _ _ _ _ _ _) (by decide) (by decide) rfl (Nat.le_of_ble_eq_true rfl) (fun r14 _ => ?_)
            refine rhF.if_eq (pc := 47) 52 dX5_bestMet_47 (by decide) (fun h15 => ?_) (fun h15 => ?_)
            · exact (b_X5_bestMet_52 ih) _ _ _ _ _
            · refine rhF.sub [0, 2, 3] rfl ?_
              exact (b_X5_bestMet_50 (b_X5_bestMet_52 ih)) _ _ _ _
    · refine rhF.iload_n (pc := 67) dX5_bestMet_67 1 rfl ?_
      exact rhF.zret (pc := 68) dX5_bestMet_68 rfl rfl rfl
set_option maxHeartbeats 4000000 in
set_option maxRecDepth 100000 in
theorem b_X5_bestMet {E : rhE} {Γ : rhG} : ∀ (M : rhM) (v0 : Nat) (v1 : Int32), rhF E 7 5 yX5_bestMet cX5_bestMet (some .int) Γ (rhe1I Γ) (f_X5_bestMet Γ M v0 v1) 0 [(0, rhR v0), (1, rhI v1)] [] Γ M := by
  intro M v0 v1
  rw [f_X5_bestMet]
  refine rhF.iconst (pc := 0) (v := (-1)) dX5_bestMet_0 (by decide) ?_
  refine rhF.istore_n (pc := 1) (L' := [(2, rhI _), (0, rhR _), (1, rhI _)]) dX5_bestMet_1 (by decide) rfl ?_
  refine rhF.aload_n (pc := 2) dX5_bestMet_2 1 rfl ?_
  refine rhF.ck (fun h1 => ?_)
  refine rhF.get (pc := 3) (rhR _) dX5_bestMet_3 fl_X5_39 h1 rfl ?_
  refine rhF.iload_n (pc := 6) dX5_bestMet_6 2 rfl ?_
  refine rhF.ck (fun h2 => ?_)
  refine rhF.callV (pc := 7) (ci := 10) (embc := rhe0I _ _) [rhI _] dX5_bestMet_7 ml_X5_172 mv_X10_headOf ⟨_, rfl, rfl⟩ h2 (c_X10_headOf _ _ _ _ _) (by decide) (by decide) rfl (Nat.le_of_ble_eq_true rfl) (fun r3 _ => ?_)
  refine rhF.istore_n (pc := 10) (L' := [(3, rhI _), (2, rhI _), (0, rhR _), (1, rhI _)]) dX5_bestMet_10 (by decide) rfl ?_
  refine rhF.iconst (pc := 11) (v := 0) dX5_bestMet_11 (by decide) ?_
  refine rhF.istore (pc := 12) (L' := [(4, rhI _), (3, rhI _), (2, rhI _), (0, rhR _), (1, rhI _)]) dX5_bestMet_12 (by decide) rfl ?_
  refine rhF.sub [3, 2, 1, 0] rfl ?_
  exact (b_X5_bestMet_14 rhFU) _ _ _ _ _
theorem c_X5_bestMet (E : rhE) (Γ : rhG) (M : rhM) (v0 : Nat) (v1 : Int32) : ∀ a, f_X5_bestMet Γ M v0 v1 = some a → rhC E 7 yX5_bestMet cX5_bestMet 5 (some .int) [rhR v0, rhI v1] Γ M ((rhe1I Γ) a) := rhF.met (by decide +kernel) (Nat.le_of_ble_eq_true rfl) (b_X5_bestMet M v0 v1)
def f_X5_copyRow (Γ : rhG) (M : rhM) (v0 : Nat) (v1 : Int32) (v2 : Nat) : Option (rhG × rhM) :=
  rhck (Γ.2.2.1 v0 = 6) <|
  rhck (Γ.2.2.1 (M.2.2 v0 2) = 1) <|
  (f_X0_copyRow Γ M (M.2.2 v0 2) v1 v2).bind fun r3 =>
  some (r3.1, r3.2)
set_option maxHeartbeats 4000000 in
set_option maxRecDepth 100000 in
theorem b_X5_copyRow {E : rhE} {Γ0 : rhG} : ∀ (Γ : rhG) (M : rhM) (v0 : Nat) (v1 : Int32) (v2 : Nat), rhF E 7 3 yX5_copyRow cX5_copyRow none Γ0 rhe2U (f_X5_copyRow Γ M v0 v1 v2) 0 [(0, rhR v0), (1, rhI v1), (2, rhR v2)] [] Γ M := by
  intro Γ M v0 v1 v2
  rw [f_X5_copyRow]
  refine rhF.aload_n (pc := 0) dX5_copyRow_0 0 rfl ?_
  refine rhF.ck (fun h1 => ?_)
  refine rhF.get (pc := 1) (rhR _) dX5_copyRow_1 fl_X5_32 h1 rfl ?_
  refine rhF.iload_n (pc := 4) dX5_copyRow_4 1 rfl ?_
  refine rhF.aload_n (pc := 5) dX5_copyRow_5 2 rfl ?_
  refine rhF.ck (fun h2 => ?_)
  refine rhF.callV (pc := 6) (ci := 0) (embc := rhe2U) [rhI _, rhR _] dX5_copyRow_6 ml_X5_84 mv_X0_copyRow ⟨_, rfl, rfl⟩ h2 (c_X0_copyRow _ _ _ _ _ _) (by decide) (by decide) rfl (Nat.le_of_ble_eq_true rfl) (fun r3 _ => ?_)
  exact rhF.vret (pc := 9) dX5_copyRow_9 rfl rfl
theorem c_X5_copyRow (E : rhE) (Γ : rhG) (M : rhM) (v0 : Nat) (v1 : Int32) (v2 : Nat) : ∀ a, f_X5_copyRow Γ M v0 v1 v2 = some a → rhC E 7 yX5_copyRow cX5_copyRow 3 none [rhR v0, rhI v1, rhR v2] Γ M (rhe2U a) := rhF.met (by decide +kernel) (Nat.le_of_ble_eq_true rfl) (b_X5_copyRow (Γ0 := Γ) Γ M v0 v1 v2)
def f_X7_ones (Γ : rhG) (M : rhM) (v0 : Int32) : Option (Int64) :=
  some ((rhsh ((1 : Int64)) (4 * v0)) - ((1 : Int64)))
set_option maxHeartbeats 4000000 in
set_option maxRecDepth 100000 in
theorem b_X7_ones {E : rhE} {Γ : rhG} {M : rhM} : ∀ (v0 : Int32), rhF E 1 1 yX7_ones cX7_ones (some .long) Γ (rhe0J Γ M) (f_X7_ones Γ M v0) 0 [(0, rhI v0)] [] Γ M := by
  intro v0
  rw [f_X7_ones]
  refine rhF.lconst (pc := 0) (v := 1) dX7_ones_0 (by decide) ?_
  refine rhF.iconst (pc := 1) (v := 4) dX7_ones_1 (by decide) ?_
  refine rhF.iload_n (pc := 2) dX7_ones_2 0 rfl ?_
  refine rhF.imul (pc := 3) dX7_ones_3 ?_
  refine rhF.lshl (pc := 4) dX7_ones_4 ?_
  refine rhF.lconst (pc := 5) (v := 1) dX7_ones_5 (by decide) ?_
  refine rhF.lsub (pc := 6) dX7_ones_6 ?_
  exact rhF.lret (pc := 7) dX7_ones_7 rfl rfl
theorem c_X7_ones (E : rhE) (Γ : rhG) (M : rhM) (v0 : Int32) : ∀ a, f_X7_ones Γ M v0 = some a → rhC E 1 yX7_ones cX7_ones 1 (some .long) [rhI v0] Γ M ((rhe0J Γ M) a) := rhF.met (by decide +kernel) (Nat.le_of_ble_eq_true rfl) (b_X7_ones v0)
def f_X7_swapped (Γ : rhG) (M : rhM) (v0 : Nat) (v1 : Int32) (v2 : Int32) (v3 : Int32) : Option (Int64) :=
  rhck (Γ.2.2.1 v0 = 8) <|
  (f_X7_ones Γ M (v2 - v1)).bind fun r2 =>
  let x3 := (rhul (M.2.1 v0 0) (4 * v1)) &&& r2
  (f_X7_ones Γ M (v3 - v2)).bind fun r4 =>
  let x5 := (rhul (M.2.1 v0 0) (4 * v2)) &&& r4
  (f_X7_ones Γ M (v3 - v1)).bind fun r6 =>
  let x7 := (M.2.1 v0 0) &&& ((rhsh r6 (4 * v1)) ^^^ ((-1 : Int64)))
  some ((x7 ||| (rhsh x5 (4 * v1))) ||| (rhsh x3 (4 * ((v1 + v3) - v2))))
set_option maxHeartbeats 4000000 in
set_option maxRecDepth 100000 in
theorem b_X7_swapped {E : rhE} {Γ : rhG} {M : rhM} : ∀ (v0 : Nat) (v1 : Int32) (v2 : Int32) (v3 : Int32), rhF E 5 10 yX7_swapped cX7_swapped (some .long) Γ (rhe0J Γ M) (f_X7_swapped Γ M v0 v1 v2 v3) 0 [(0, rhR v0), (1, rhI v1), (2, rhI v2), (3, rhI v3)] [] Γ M := by
  intro v0 v1 v2 v3
  rw [f_X7_swapped]
  refine rhF.aload_n (pc := 0) dX7_swapped_0 0 rfl ?_
  refine rhF.ck (fun h1 => ?_)
  refine rhF.get (pc := 1) (rhJ _) dX7_swapped_1 fl_X7_31 h1 rfl ?_
  refine rhF.iconst (pc := 4) (v := 4) dX7_swapped_4 (by decide) ?_
  refine rhF.iload_n (pc := 5) dX7_swapped_5 1 rfl ?_
  refine rhF.imul (pc := 6) dX7_swapped_6 ?_
  refine rhF.lushr (pc := 7) dX7_swapped_7 ?_
  refine rhF.iload_n (pc := 8) dX7_swapped_8 2 rfl ?_
  refine rhF.iload_n (pc := 9) dX7_swapped_9 1 rfl ?_
  refine rhF.isub (pc := 10) dX7_swapped_10 ?_
  refine rhF.callS (pc := 11) (embc := rhe0J _ _) [rhI _] dX7_swapped_11 ml_X7_69 ms_X7_ones (c_X7_ones _ _ _ _) (by decide) (by decide) rfl (Nat.le_of_ble_eq_true rfl) (fun r2 _ => ?_)
  refine rhF.land (pc := 14) dX7_swapped_14 ?_
  refine rhF.lstore (pc := 15) (L' := [(4, rhJ _), (0, rhR _), (1, rhI _), (2, rhI _), (3, rhI _)]) dX7_swapped_15 (by decide) rfl ?_
  refine rhF.aload_n (pc := 17) dX7_swapped_17 1 rfl ?_
  refine rhF.get (pc := 18) (rhJ _) dX7_swapped_18 fl_X7_31 h1 rfl ?_
  refine rhF.iconst (pc := 21) (v := 4) dX7_swapped_21 (by decide) ?_
  refine rhF.iload_n (pc := 22) dX7_swapped_22 3 rfl ?_
  refine rhF.imul (pc := 23) dX7_swapped_23 ?_
  refine rhF.lushr (pc := 24) dX7_swapped_24 ?_
  refine rhF.iload_n (pc := 25) dX7_swapped_25 4 rfl ?_
  refine rhF.iload_n (pc := 26) dX7_swapped_26 3 rfl ?_
  refine rhF.isub (pc := 27) dX7_swapped_27 ?_
  refine rhF.callS (pc := 28) (embc := rhe0J _ _) [rhI _] dX7_swapped_28 ml_X7_69 ms_X7_ones (c_X7_ones _ _ _ _) (by decide) (by decide) rfl (Nat.le_of_ble_eq_true rfl) (fun r4 _ => ?_)
  refine rhF.land (pc := 31) dX7_swapped_31 ?_
  refine rhF.lstore (pc := 32) (L' := [(6, rhJ _), (4, rhJ _), (0, rhR _), (1, rhI _), (2, rhI _), (3, rhI _)]) dX7_swapped_32 (by decide) rfl ?_
  refine rhF.aload_n (pc := 34) dX7_swapped_34 2 rfl ?_
  refine rhF.get (pc := 35) (rhJ _) dX7_swapped_35 fl_X7_31 h1 rfl ?_
  refine rhF.iload_n (pc := 38) dX7_swapped_38 5 rfl ?_
  refine rhF.iload_n (pc := 39) dX7_swapped_39 3 rfl ?_
  refine rhF.isub (pc := 40) dX7_swapped_40 ?_
  refine rhF.callS (pc := 41) (embc := rhe0J _ _) [rhI _] dX7_swapped_41 ml_X7_69 ms_X7_ones (c_X7_ones _ _ _ _) (by decide) (by decide) rfl (Nat.le_of_ble_eq_true rfl) (fun r6 _ => ?_)
  refine rhF.iconst (pc := 44) (v := 4) dX7_swapped_44 (by decide) ?_
  refine rhF.iload_n (pc := 45) dX7_swapped_45 3 rfl ?_
  refine rhF.imul (pc := 46) dX7_swapped_46 ?_
  refine rhF.lshl (pc := 47) dX7_swapped_47 ?_
  refine rhF.ldc2 (pc := 48) dX7_swapped_48 k_X7_73 ?_
  refine rhF.lxor (pc := 51) dX7_swapped_51 ?_
  refine rhF.land (pc := 52) dX7_swapped_52 ?_
  refine rhF.lstore (pc := 53) (L' := [(8, rhJ _), (6, rhJ _), (4, rhJ _), (0, rhR _), (1, rhI _), (2, rhI _), (3, rhI _)]) dX7_swapped_53 (by decide) rfl ?_
  refine rhF.lload (pc := 55) dX7_swapped_55 0 rfl ?_
  refine rhF.lload (pc := 57) dX7_swapped_57 1 rfl ?_
  refine rhF.iconst (pc := 59) (v := 4) dX7_swapped_59 (by decide) ?_
  refine rhF.iload_n (pc := 60) dX7_swapped_60 4 rfl ?_
  refine rhF.imul (pc := 61) dX7_swapped_61 ?_
  refine rhF.lshl (pc := 62) dX7_swapped_62 ?_
  refine rhF.lor (pc := 63) dX7_swapped_63 ?_
  refine rhF.lload (pc := 64) dX7_swapped_64 2 rfl ?_
  refine rhF.iconst (pc := 66) (v := 4) dX7_swapped_66 (by decide) ?_
  refine rhF.iload_n (pc := 67) dX7_swapped_67 4 rfl ?_
  refine rhF.iload_n (pc := 68) dX7_swapped_68 6 rfl ?_
  refine rhF.iadd (pc := 69) dX7_swapped_69 ?_
  refine rhF.iload_n (pc := 70) dX7_swapped_70 5 rfl ?_
  refine rhF.isub (pc := 71) dX7_swapped_71 ?_
  refine rhF.imul (pc := 72) dX7_swapped_72 ?_
  refine rhF.lshl (pc := 73) dX7_swapped_73 ?_
  refine rhF.lor (pc := 74) dX7_swapped_74 ?_
  exact rhF.lret (pc := 75) dX7_swapped_75 rfl rfl
theorem c_X7_swapped (E : rhE) (Γ : rhG) (M : rhM) (v0 : Nat) (v1 : Int32) (v2 : Int32) (v3 : Int32) : ∀ a, f_X7_swapped Γ M v0 v1 v2 v3 = some a → rhC E 5 yX7_swapped cX7_swapped 10 (some .long) [rhR v0, rhI v1, rhI v2, rhI v3] Γ M ((rhe0J Γ M) a) := rhF.met (by decide +kernel) (Nat.le_of_ble_eq_true rfl) (b_X7_swapped v0 v1 v2 v3)
def f_X7_after (Γ : rhG) (M : rhM) (v0 : Nat) (v1 : Int32) (v2 : Int32) (v3 : Int32) : Option (Int64) :=
  rhck (Γ.2.2.1 v0 = 8) <|
  rhck (Γ.2.2.1 (M.2.2 v0 3) = 15) <|
  rhck (0 ≤ (v1).toInt ∧ (v1).toInt < (Γ.2.2.2 (M.2.2 v0 3) : Nat)) <|
  let x4 := M.1 (M.2.2 v0 3) v1.toNatClampNeg
  if v1 < v3 then
    (rhck (0 ≤ (v3).toInt ∧ (v3).toInt < (Γ.2.2.2 (M.2.2 v0 3) : Nat)) <|
    (f_X7_swapped Γ M v0 (x4 - v2) x4 (M.1 (M.2.2 v0 3) v3.toNatClampNeg)).bind fun r7 =>
    some r7)
  else
    rhck (0 ≤ (v3).toInt ∧ (v3).toInt < (Γ.2.2.2 (M.2.2 v0 3) : Nat)) <|
    (f_X7_swapped Γ M v0 (M.1 (M.2.2 v0 3) v3.toNatClampNeg) (x4 - v2) x4).bind fun r9 =>
    some r9
set_option maxHeartbeats 4000000 in
set_option maxRecDepth 100000 in
theorem b_X7_after {E : rhE} {Γ : rhG} {M : rhM} : ∀ (v0 : Nat) (v1 : Int32) (v2 : Int32) (v3 : Int32), rhF E 6 5 yX7_after cX7_after (some .long) Γ (rhe0J Γ M) (f_X7_after Γ M v0 v1 v2 v3) 0 [(0, rhR v0), (1, rhI v1), (2, rhI v2), (3, rhI v3)] [] Γ M := by
  intro v0 v1 v2 v3
  rw [f_X7_after]
  refine rhF.aload_n (pc := 0) dX7_after_0 0 rfl ?_
  refine rhF.ck (fun h1 => ?_)
  refine rhF.get (pc := 1) (rhR _) dX7_after_1 fl_X7_15 h1 rfl ?_
  refine rhF.iload_n (pc := 4) dX7_after_4 1 rfl ?_
  refine rhF.ck (fun h2 => ?_)
  refine rhF.ck (fun h3 => ?_)
  refine rhF.iald (pc := 5) dX7_after_5 h2 h3 ?_
  refine rhF.istore (pc := 6) (L' := [(4, rhI _), (0, rhR _), (1, rhI _), (2, rhI _), (3, rhI _)]) dX7_after_6 (by decide) rfl ?_
  refine rhF.iload_n (pc := 8) dX7_after_8 2 rfl ?_
  refine rhF.iload_n (pc := 9) dX7_after_9 4 rfl ?_
  refine rhF.icmp_ge (pc := 10) 32 dX7_after_10 (by decide) (fun h5 => ?_) (fun h5 => ?_)
  · refine rhF.aload_n (pc := 13) dX7_after_13 1 rfl ?_
    refine rhF.iload (pc := 14) dX7_after_14 0 rfl ?_
    refine rhF.iload_n (pc := 16) dX7_after_16 3 rfl ?_
    refine rhF.isub (pc := 17) dX7_after_17 ?_
    refine rhF.iload (pc := 18) dX7_after_18 0 rfl ?_
    refine rhF.aload_n (pc := 20) dX7_after_20 1 rfl ?_
    refine rhF.get (pc := 21) (rhR _) dX7_after_21 fl_X7_15 h1 rfl ?_
    refine rhF.iload_n (pc := 24) dX7_after_24 4 rfl ?_
    refine rhF.ck (fun h6 => ?_)
    refine rhF.iald (pc := 25) dX7_after_25 h2 h6 ?_
    refine rhF.callV (pc := 26) (ci := 7) (embc := rhe0J _ _) [rhI _, rhI _, rhI _] dX7_after_26 ml_X7_65 mv_X7_swapped ⟨_, rfl, rfl⟩ h1 (c_X7_swapped _ _ _ _ _ _ _) (by decide) (by decide) rfl (Nat.le_of_ble_eq_true rfl) (fun r7 _ => ?_)
    refine rhF.goto (pc := 29) 48 dX7_after_29 (by decide) ?_
    exact rhF.lret (pc := 48) dX7_after_48 rfl rfl
  · refine rhF.aload_n (pc := 32) dX7_after_32 1 rfl ?_
    refine rhF.aload_n (pc := 33) dX7_after_33 1 rfl ?_
    refine rhF.get (pc := 34) (rhR _) dX7_after_34 fl_X7_15 h1 rfl ?_
    refine rhF.iload_n (pc := 37) dX7_after_37 4 rfl ?_
    refine rhF.ck (fun h8 => ?_)
    refine rhF.iald (pc := 38) dX7_after_38 h2 h8 ?_
    refine rhF.iload (pc := 39) dX7_after_39 0 rfl ?_
    refine rhF.iload_n (pc := 41) dX7_after_41 3 rfl ?_
    refine rhF.isub (pc := 42) dX7_after_42 ?_
    refine rhF.iload (pc := 43) dX7_after_43 0 rfl ?_
    refine rhF.callV (pc := 45) (ci := 7) (embc := rhe0J _ _) [rhI _, rhI _, rhI _] dX7_after_45 ml_X7_65 mv_X7_swapped ⟨_, rfl, rfl⟩ h1 (c_X7_swapped _ _ _ _ _ _ _) (by decide) (by decide) rfl (Nat.le_of_ble_eq_true rfl) (fun r9 _ => ?_)
    exact rhF.lret (pc := 48) dX7_after_48 rfl rfl
theorem c_X7_after (E : rhE) (Γ : rhG) (M : rhM) (v0 : Nat) (v1 : Int32) (v2 : Int32) (v3 : Int32) : ∀ a, f_X7_after Γ M v0 v1 v2 v3 = some a → rhC E 6 yX7_after cX7_after 5 (some .long) [rhR v0, rhI v1, rhI v2, rhI v3] Γ M ((rhe0J Γ M) a) := rhF.met (by decide +kernel) (Nat.le_of_ble_eq_true rfl) (b_X7_after v0 v1 v2 v3)
def f_X7_listPulls_168 (k64 : rhM → Nat → Nat → Nat → Int32 → Int32 → Int32 → Int32 → Int32 → Option (rhM)) (Γ : rhG) (M : rhM) (v0 : Nat) (v1 : Nat) (v2 : Nat) (v3 : Int32) (v4 : Int32) (v5 : Int32) (v6 : Int32) (v7 : Int32) : Option (rhM) :=
  let x18 : Int32 := v7 + 1
  k64 M v0 v1 v2 v3 v4 v5 v6 x18
def f_X7_listPulls_64 (k174 : rhM → Nat → Nat → Nat → Int32 → Int32 → Int32 → Int32 → Option (rhM)) (Γ : rhG) : Nat → rhM → Nat → Nat → Nat → Int32 → Int32 → Int32 → Int32 → Int32 → Option (rhM)
  | 0, _, _, _, _, _, _, _, _, _ => none
  | n + 1, M, v0, v1, v2, v3, v4, v5, v6, v7 =>
    rhck (Γ.2.2.1 v0 = 8) <|
    if v7 < (M.1 v0 1) then
      (if v7 = v3 then
        (f_X7_listPulls_168 (f_X7_listPulls_64 k174 Γ n) Γ M v0 v1 v2 v3 v4 v5 v6 v7)
      else
        if (M.1 v0 5) < 32 then
          (rhck (Γ.2.2.1 (M.2.2 v0 4) = 15) <|
          rhck (0 ≤ (v7).toInt ∧ (v7).toInt < (Γ.2.2.2 (M.2.2 v0 4) : Nat)) <|
          rhck (Γ.2.2.1 v2 = 3) <|
          (f_X2_allows Γ M v2 v3 v4 v7 (M.1 (M.2.2 v0 4) v7.toNatClampNeg)).bind fun r23 =>
          if r23.1 = 0 then
            (f_X7_listPulls_168 (f_X7_listPulls_64 k174 Γ n) Γ r23.2 v0 v1 v2 v3 v4 v5 v6 v7)
          else
            (f_X7_after Γ r23.2 v0 v3 v5 v7).bind fun r25 =>
            rhck (Γ.2.2.1 (r23.2.2.2 v0 6) = 16) <|
            rhck (0 ≤ (r23.2.1 v0 5).toInt ∧ (r23.2.1 v0 5).toInt < (Γ.2.2.2 (r23.2.2.2 v0 6) : Nat)) <|
            let M28 := rhsl r23.2 (r23.2.2.2 v0 6) (r23.2.1 v0 5 : Int32).toNatClampNeg r25
            (f_X3_code Γ M28 v3 v5 v7).bind fun r29 =>
            rhck (Γ.2.2.1 (r23.2.2.2 v0 7) = 15) <|
            rhck (0 ≤ (r23.2.1 v0 5).toInt ∧ (r23.2.1 v0 5).toInt < (Γ.2.2.2 (r23.2.2.2 v0 7) : Nat)) <|
            let M32 := rhsi M28 (r23.2.2.2 v0 7) (r23.2.1 v0 5 : Int32).toNatClampNeg r29
            rhck (Γ.2.2.1 v1 = 10) <|
            rhck (Γ.2.2.1 (r23.2.2.2 v1 8) = 15) <|
            rhck (0 ≤ (v4).toInt ∧ (v4).toInt < (Γ.2.2.2 (r23.2.2.2 v1 8) : Nat)) <|
            rhck (Γ.2.2.1 (r23.2.2.2 v0 8) = 15) <|
            rhck (0 ≤ (M32.1 v0 5).toInt ∧ (M32.1 v0 5).toInt < (Γ.2.2.2 (r23.2.2.2 v0 8) : Nat)) <|
            let M38 := rhsi M32 (r23.2.2.2 v0 8) (M32.1 v0 5 : Int32).toNatClampNeg (M32.1 (r23.2.2.2 v1 8) v4.toNatClampNeg)
            let M39 := rhsi M38 v0 5 ((M38.1 v0 5) + 1)
            f_X7_listPulls_168 (f_X7_listPulls_64 k174 Γ n) Γ M39 v0 v1 v2 v3 v4 v5 v6 v7)
        else
          f_X7_listPulls_168 (f_X7_listPulls_64 k174 Γ n) Γ M v0 v1 v2 v3 v4 v5 v6 v7)
    else
      k174 M v0 v1 v2 v3 v4 v5 v6
def f_X7_listPulls_174 (k31 : rhM → Nat → Nat → Nat → Int32 → Int32 → Int32 → Int32 → Option (rhM)) (Γ : rhG) (M : rhM) (v0 : Nat) (v1 : Nat) (v2 : Nat) (v3 : Int32) (v4 : Int32) (v5 : Int32) (v6 : Int32) : Option (rhM) :=
  let x40 : Int32 := v6 + (-1)
  k31 M v0 v1 v2 v3 v4 v5 x40
def f_X7_listPulls_31 (k180 : rhM → Nat → Nat → Nat → Int32 → Option (rhM)) (Γ : rhG) : Nat → rhM → Nat → Nat → Nat → Int32 → Int32 → Int32 → Int32 → Option (rhM)
  | 0, _, _, _, _, _, _, _, _ => none
  | n + 1, M, v0, v1, v2, v3, v4, v5, v6 =>
    rhck (Γ.2.2.1 v0 = 8) <|
    rhck (Γ.2.2.1 (M.2.2 v0 2) = 15) <|
    rhck (0 ≤ (v3).toInt ∧ (v3).toInt < (Γ.2.2.2 (M.2.2 v0 2) : Nat)) <|
    if v6 < (M.1 (M.2.2 v0 2) v3.toNatClampNeg) then
      (k180 M v0 v1 v2 v3)
    else
      (f_X7_digitOf Γ M (M.2.1 v0 0) v6).bind fun r12 =>
      let x13 := v4 ||| (1 <<< (r12 &&& 31))
      let x14 : Int32 := v5 + 1
      f_X7_listPulls_64 (f_X7_listPulls_174 (f_X7_listPulls_31 k180 Γ n) Γ) Γ rhFU M v0 v1 v2 v3 x13 x14 v6 0
def f_X7_listPulls_180 (k7 : rhM → Nat → Nat → Nat → Int32 → Option (rhM)) (Γ : rhG) (M : rhM) (v0 : Nat) (v1 : Nat) (v2 : Nat) (v3 : Int32) : Option (rhM) :=
  let x41 : Int32 := v3 + 1
  k7 M v0 v1 v2 x41
def f_X7_listPulls_7 (Γ : rhG) : Nat → rhM → Nat → Nat → Nat → Int32 → Option (rhM)
  | 0, _, _, _, _, _ => none
  | n + 1, M, v0, v1, v2, v3 =>
    rhck (Γ.2.2.1 v0 = 8) <|
    if v3 < (M.1 v0 1) then
      (rhck (Γ.2.2.1 (M.2.2 v0 3) = 15) <|
      rhck (0 ≤ (v3).toInt ∧ (v3).toInt < (Γ.2.2.2 (M.2.2 v0 3) : Nat)) <|
      let x7 := (M.1 (M.2.2 v0 3) v3.toNatClampNeg) - 1
      f_X7_listPulls_31 (f_X7_listPulls_180 (f_X7_listPulls_7 Γ n) Γ) Γ rhFU M v0 v1 v2 v3 0 0 x7)
    else
      some M
def f_X7_listPulls (Γ : rhG) (M : rhM) (v0 : Nat) (v1 : Nat) (v2 : Nat) : Option (rhM) :=
  rhck (Γ.2.2.1 v0 = 8) <|
  let M2 := rhsi M v0 5 0
  f_X7_listPulls_7 Γ rhFU M2 v0 v1 v2 0
set_option maxHeartbeats 4000000 in
set_option maxRecDepth 100000 in
theorem b_X7_listPulls_168 {E : rhE} {Γ : rhG} {k64 : rhM → Nat → Nat → Nat → Int32 → Int32 → Int32 → Int32 → Int32 → Option (rhM)} (hk64 : ∀ (M : rhM) (v0 : Nat) (v1 : Nat) (v2 : Nat) (v3 : Int32) (v4 : Int32) (v5 : Int32) (v6 : Int32) (v7 : Int32), rhF E 8 8 yX7_listPulls cX7_listPulls none Γ (rhe1U Γ) (k64 M v0 v1 v2 v3 v4 v5 v6 v7) 64 [(0, rhR v0), (1, rhR v1), (2, rhR v2), (3, rhI v3), (4, rhI v4), (5, rhI v5), (6, rhI v6), (7, rhI v7)] [] Γ M) : ∀ (M : rhM) (v0 : Nat) (v1 : Nat) (v2 : Nat) (v3 : Int32) (v4 : Int32) (v5 : Int32) (v6 : Int32) (v7 : Int32), rhF E 8 8 yX7_listPulls cX7_listPulls none Γ (rhe1U Γ) (f_X7_listPulls_168 k64 Γ M v0 v1 v2 v3 v4 v5 v6 v7) 168 [(0, rhR v0), (1, rhR v1), (2, rhR v2), (3, rhI v3), (4, rhI v4), (5, rhI v5), (6, rhI v6), (7, rhI v7)] [] Γ M := by
  intro M v0 v1 v2 v3 v4 v5 v6 v7
  rw [f_X7_listPulls_168]
  refine rhF.iinc (pc := 168) (L' := [(7, rhI _), (0, rhR _), (1, rhR _), (2, rhR _), (3, rhI _), (4, rhI _), (5, rhI _), (6, rhI _)]) dX7_listPulls_168 7 rfl rfl (by decide) rfl ?_
  refine rhF.goto (pc := 171) 64 dX7_listPulls_171 (by decide) ?_
  refine rhF.sub [1, 2, 3, 4, 5, 6, 7, 0] rfl ?_
  exact hk64 _ _ _ _ _ _ _ _ _
set_option maxHeartbeats 4000000 in
set_option maxRecDepth 100000 in
theorem b_X7_listPulls_64 {E : rhE} {Γ : rhG} {k174 : rhM → Nat → Nat → Nat → Int32 → Int32 → Int32 → Int32 → Option (rhM)} (hk174 : ∀ (M : rhM) (v0 : Nat) (v1 : Nat) (v2 : Nat) (v3 : Int32) (v4 : Int32) (v5 : Int32) (v6 : Int32), rhF E 8 8 yX7_listPulls cX7_listPulls none Γ (rhe1U Γ) (k174 M v0 v1 v2 v3 v4 v5 v6) 174 [(0, rhR v0), (1, rhR v1), (2, rhR v2), (3, rhI v3), (4, rhI v4), (5, rhI v5), (6, rhI v6)] [] Γ M) : ∀ (n : Nat) (M : rhM) (v0 : Nat) (v1 : Nat) (v2 : Nat) (v3 : Int32) (v4 : Int32) (v5 : Int32) (v6 : Int32) (v7 : Int32), rhF E 8 8 yX7_listPulls cX7_listPulls none Γ (rhe1U Γ) (f_X7_listPulls_64 k174 Γ n M v0 v1 v2 v3 v4 v5 v6 v7) 64 [(0, rhR v0), (1, rhR v1), (2, rhR v2), (3, rhI v3), (4, rhI v4), (5, rhI v5), (6, rhI v6), (7, rhI v7)] [] Γ M := by
  intro n
  induction n with
  | zero => intro M v0 v1 v2 v3 v4 v5 v6 v7; rw [f_X7_listPulls_64]; exact rhF.nope
  | succ n ih =>
    intro M v0 v1 v2 v3 v4 v5 v6 v7
    rw [f_X7_listPulls_64]
    refine rhF.iload (pc := 64) dX7_listPulls_64 7 rfl ?_
    refine rhF.aload_n (pc := 66) dX7_listPulls_66 0 rfl ?_
    refine rhF.ck (fun h15 => ?_)
    refine rhF.get (pc := 67) (rhI _) dX7_listPulls_67 fl_X7_41 h15 rfl ?_
    refine rhF.icmp_ge (pc := 70) 174 dX7_listPulls_70 (by decide) (fun h16 => ?_) (fun h16 => ?_)
    · refine rhF.iload (pc := 73) dX7_listPulls_73 7 rfl ?_
      refine rhF.iload_n (pc := 75) dX7_listPulls_75 3 rfl ?_
      refine rhF.icmp_eq (pc := 76) 168 dX7_listPulls_76 (by decide) (fun h17 => ?_) (fun h17 => ?_)
      · exact (b_X7_listPulls_168 ih) _ _ _ _ _ _ _ _ _
      · refine rhF.aload_n (pc := 79) dX7_listPulls_79 0 rfl ?_
        refine rhF.get (pc := 80) (rhI _) dX7_listPulls_80 fl_X7_75 h15 rfl ?_
        refine rhF.bipush (pc := 83) (v := 32) dX7_listPulls_83 (by decide) ?_
        refine rhF.icmp_ge (pc := 85) 168 dX7_listPulls_85 (by decide) (fun h19 => ?_) (fun h19 => ?_)
        · refine rhF.aload_n (pc := 88) dX7_listPulls_88 2 rfl ?_
          refine rhF.iload_n (pc := 89) dX7_listPulls_89 3 rfl ?_
          refine rhF.iload (pc := 90) dX7_listPulls_90 4 rfl ?_
          refine rhF.iload (pc := 92) dX7_listPulls_92 7 rfl ?_
          refine rhF.aload_n (pc := 94) dX7_listPulls_94 0 rfl ?_
          refine rhF.get (pc := 95) (rhR _) dX7_listPulls_95 fl_X7_18 h15 rfl ?_
          refine rhF.iload (pc := 98) dX7_listPulls_98 7 rfl ?_
          refine rhF.ck (fun h20 => ?_)
          refine rhF.ck (fun h21 => ?_)
          refine rhF.iald (pc := 100) dX7_listPulls_100 h20 h21 ?_
          refine rhF.ck (fun h22 => ?_)
          refine rhF.callV (pc := 101) (ci := 2) (embc := rhe1I _) [rhI _, rhI _, rhI _, rhI _] dX7_listPulls_101 ml_X7_78 mv_X2_allows ⟨_, rfl, rfl⟩ h22 (c_X2_allows _ _ _ _ _ _ _ _) (by decide) (by decide) rfl (Nat.le_of_ble_eq_true rfl) (fun r23 _ => ?_)
          refine rhF.if_eq (pc := 104) 168 dX7_listPulls_104 (by decide) (fun h24 => ?_) (fun h24 => ?_)
          · exact (b_X7_listPulls_168 ih) _ _ _ _ _ _ _ _ _
          · refine rhF.aload_n (pc := 107) dX7_listPulls_107 0 rfl ?_
            refine rhF.get (pc := 108) (rhR _) dX7_listPulls_108 fl_X7_21 h15 rfl ?_
            refine rhF.aload_n (pc := 111) dX7_listPulls_111 0 rfl ?_
            refine rhF.get (pc := 112) (rhI _) dX7_listPulls_112 fl_X7_75 h15 rfl ?_
            refine rhF.aload_n (pc := 115) dX7_listPulls_115 0 rfl ?_
            refine rhF.iload_n (pc := 116) dX7_listPulls_116 3 rfl ?_
            refine rhF.iload (pc := 117) dX7_listPulls_117 5 rfl ?_
            refine rhF.iload (pc := 119) dX7_listPulls_119 7 rfl ?_
            refine rhF.callV (pc := 121) (ci := 7) (embc := rhe0J _ _) [rhI _, rhI _, rhI _] dX7_listPulls_121 ml_X7_84 mv_X7_after ⟨_, rfl, rfl⟩ h15 (c_X7_after _ _ _ _ _ _ _) (by decide) (by decide) rfl (Nat.le_of_ble_eq_true rfl) (fun r25 _ => ?_)
            refine rhF.ck (fun h26 => ?_)
            refine rhF.ck (fun h27 => ?_)
            refine rhF.last (pc := 124) dX7_listPulls_124 h26 h27 ?_
            refine rhF.aload_n (pc := 125) dX7_listPulls_125 0 rfl ?_
            refine rhF.get (pc := 126) (rhR _) dX7_listPulls_126 fl_X7_25 h15 rfl ?_
            refine rhF.aload_n (pc := 129) dX7_listPulls_129 0 rfl ?_
            refine rhF.get (pc := 130) (rhI _) dX7_listPulls_130 fl_X7_75 h15 rfl ?_
            refine rhF.iload_n (pc := 133) dX7_listPulls_133 3 rfl ?_
            refine rhF.iload (pc := 134) dX7_listPulls_134 5 rfl ?_
            refine rhF.iload (pc := 136) dX7_listPulls_136 7 rfl ?_
            refine rhF.callS (pc := 138) (embc := rhe0I _ _) [rhI _, rhI _, rhI _] dX7_listPulls_138 ml_X7_87 ms_X3_code (c_X3_code _ _ _ _ _ _) (by decide) (by decide) rfl (Nat.le_of_ble_eq_true rfl) (fun r29 _ => ?_)
            refine rhF.ck (fun h30 => ?_)
            refine rhF.ck (fun h31 => ?_)
            refine rhF.iast (pc := 141) dX7_listPulls_141 h30 h31 ?_
            refine rhF.aload_n (pc := 142) dX7_listPulls_142 0 rfl ?_
            refine rhF.get (pc := 143) (rhR _) dX7_listPulls_143 fl_X7_28 h15 rfl ?_
            refine rhF.aload_n (pc := 146) dX7_listPulls_146 0 rfl ?_
            refine rhF.get (pc := 147) (rhI _) dX7_listPulls_147 fl_X7_75 h15 rfl ?_
            refine rhF.aload_n (pc := 150) dX7_listPulls_150 1 rfl ?_
            refine rhF.ck (fun h33 => ?_)
            refine rhF.get (pc := 151) (rhR _) dX7_listPulls_151 fl_X7_93 h33 rfl ?_
            refine rhF.iload (pc := 154) dX7_listPulls_154 4 rfl ?_
            refine rhF.ck (fun h34 => ?_)
            refine rhF.ck (fun h35 => ?_)
            refine rhF.iald (pc := 156) dX7_listPulls_156 h34 h35 ?_
            refine rhF.ck (fun h36 => ?_)
            refine rhF.ck (fun h37 => ?_)
            refine rhF.iast (pc := 157) dX7_listPulls_157 h36 h37 ?_
            refine rhF.aload_n (pc := 158) dX7_listPulls_158 0 rfl ?_
            refine rhF.dupr (pc := 159) dX7_listPulls_159 ?_
            refine rhF.get (pc := 160) (rhI _) dX7_listPulls_160 fl_X7_75 h15 rfl ?_
            refine rhF.iconst (pc := 163) (v := 1) dX7_listPulls_163 (by decide) ?_
            refine rhF.iadd (pc := 164) dX7_listPulls_164 ?_
            refine rhF.puti (pc := 165) dX7_listPulls_165 fl_X7_75 h15 (fun q hq => by cases hq; exact Or.inl rfl) ⟨rfl, rfl⟩ (fun _ => rfl) ?_
            exact (b_X7_listPulls_168 ih) _ _ _ _ _ _ _ _ _
        · exact (b_X7_listPulls_168 ih) _ _ _ _ _ _ _ _ _
    · refine rhF.sub [0, 1, 2, 3, 4, 5, 6] rfl ?_
      exact hk174 _ _ _ _ _ _ _ _
set_option maxHeartbeats 4000000 in
set_option maxRecDepth 100000 in
theorem b_X7_listPulls_174 {E : rhE} {Γ : rhG} {k31 : rhM → Nat → Nat → Nat → Int32 → Int32 → Int32 → Int32 → Option (rhM)} (hk31 : ∀ (M : rhM) (v0 : Nat) (v1 : Nat) (v2 : Nat) (v3 : Int32) (v4 : Int32) (v5 : Int32) (v6 : Int32), rhF E 8 8 yX7_listPulls cX7_listPulls none Γ (rhe1U Γ) (k31 M v0 v1 v2 v3 v4 v5 v6) 31 [(0, rhR v0), (1, rhR v1), (2, rhR v2), (3, rhI v3), (4, rhI v4), (5, rhI v5), (6, rhI v6)] [] Γ M) : ∀ (M : rhM) (v0 : Nat) (v1 : Nat) (v2 : Nat) (v3 : Int32) (v4 : Int32) (v5 : Int32) (v6 : Int32), rhF E 8 8 yX7_listPulls cX7_listPulls none Γ (rhe1U Γ) (f_X7_listPulls_174 k31 Γ M v0 v1 v2 v3 v4 v5 v6) 174 [(0, rhR v0), (1, rhR v1), (2, rhR v2), (3, rhI v3), (4, rhI v4), (5, rhI v5), (6, rhI v6)] [] Γ M := by
  intro M v0 v1 v2 v3 v4 v5 v6
  rw [f_X7_listPulls_174]
  refine rhF.iinc (pc := 174) (L' := [(6, rhI _), (0, rhR _), (1, rhR _), (2, rhR _), (3, rhI _), (4, rhI _), (5, rhI _)]) dX7_listPulls_174 6 rfl rfl (by decide) rfl ?_
  refine rhF.goto (pc := 177) 31 dX7_listPulls_177 (by decide) ?_
  refine rhF.sub [1, 2, 3, 4, 5, 6, 0] rfl ?_
  exact hk31 _ _ _ _ _ _ _ _
set_option maxHeartbeats 4000000 in
set_option maxRecDepth 100000 in
theorem b_X7_listPulls_31 {E : rhE} {Γ : rhG} {k180 : rhM → Nat → Nat → Nat → Int32 → Option (rhM)} (hk180 : ∀ (M : rhM) (v0 : Nat) (v1 : Nat) (v2 : Nat) (v3 : Int32), rhF E 8 8 yX7_listPulls cX7_listPulls none Γ (rhe1U Γ) (k180 M v0 v1 v2 v3) 180 [(0, rhR v0), (1, rhR v1), (2, rhR v2), (3, rhI v3)] [] Γ M) : ∀ (n : Nat) (M : rhM) (v0 : Nat) (v1 : Nat) (v2 : Nat) (v3 : Int32) (v4 : Int32) (v5 : Int32) (v6 : Int32), rhF E 8 8 yX7_listPulls cX7_listPulls none Γ (rhe1U Γ) (f_X7_listPulls_31 k180 Γ n M v0 v1 v2 v3 v4 v5 v6) 31 [(0, rhR v0), (1, rhR v1), (2, rhR v2), (3, rhI v3), (4, rhI v4), (5, rhI v5), (6, rhI v6)] [] Γ M := by
  intro n
  induction n with
  | zero => intro M v0 v1 v2 v3 v4 v5 v6; rw [f_X7_listPulls_31]; exact rhF.nope
  | succ n ih =>
    intro M v0 v1 v2 v3 v4 v5 v6
    rw [f_X7_listPulls_31]
    refine rhF.iload (pc := 31) dX7_listPulls_31 6 rfl ?_
    refine rhF.aload_n (pc := 33) dX7_listPulls_33 0 rfl ?_
    refine rhF.ck (fun h8 => ?_)
    refine rhF.get (pc := 34) (rhR _) dX7_listPulls_34 fl_X7_9 h8 rfl ?_
    refine rhF.iload_n (pc := 37) dX7_listPulls_37 3 rfl ?_
    refine rhF.ck (fun h9 => ?_)
    refine rhF.ck (fun h10 => ?_)
    refine rhF.iald (pc := 38) dX7_listPulls_38 h9 h10 ?_
    refine rhF.icmp_lt (pc := 39) 180 dX7_listPulls_39 (by decide) (fun h11 => ?_) (fun h11 => ?_)
    · refine rhF.sub [0, 1, 2, 3] rfl ?_
      exact hk180 _ _ _ _ _
    · refine rhF.iload (pc := 42) dX7_listPulls_42 4 rfl ?_
      refine rhF.iconst (pc := 44) (v := 1) dX7_listPulls_44 (by decide) ?_
      refine rhF.aload_n (pc := 45) dX7_listPulls_45 0 rfl ?_
      refine rhF.get (pc := 46) (rhJ _) dX7_listPulls_46 fl_X7_31 h8 rfl ?_
      refine rhF.iload (pc := 49) dX7_listPulls_49 6 rfl ?_
      refine rhF.callS (pc := 51) (embc := rhe0I _ _) [rhJ _, rhI _] dX7_listPulls_51 ml_X7_51 ms_X7_digitOf (c_X7_digitOf _ _ _ _ _) (by decide) (by decide) rfl (Nat.le_of_ble_eq_true rfl) (fun r12 _ => ?_)
      refine rhF.ishl (pc := 54) dX7_listPulls_54 ?_
      refine rhF.ior (pc := 55) dX7_listPulls_55 ?_
      refine rhF.istore (pc := 56) (L' := [(4, rhI _), (0, rhR _), (1, rhR _), (2, rhR _), (3, rhI _), (5, rhI _), (6, rhI _)]) dX7_listPulls_56 (by decide) rfl ?_
      refine rhF.iinc (pc := 58) (L' := [(5, rhI _), (4, rhI _), (0, rhR _), (1, rhR _), (2, rhR _), (3, rhI _), (6, rhI _)]) dX7_listPulls_58 5 rfl rfl (by decide) rfl ?_
      refine rhF.iconst (pc := 61) (v := 0) dX7_listPulls_61 (by decide) ?_
      refine rhF.istore (pc := 62) (L' := [(7, rhI _), (5, rhI _), (4, rhI _), (0, rhR _), (1, rhR _), (2, rhR _), (3, rhI _), (6, rhI _)]) dX7_listPulls_62 (by decide) rfl ?_
      refine rhF.sub [3, 4, 5, 6, 2, 1, 7, 0] rfl ?_
      exact (b_X7_listPulls_64 (b_X7_listPulls_174 ih) rhFU) _ _ _ _ _ _ _ _ _
set_option maxHeartbeats 4000000 in
set_option maxRecDepth 100000 in
theorem b_X7_listPulls_180 {E : rhE} {Γ : rhG} {k7 : rhM → Nat → Nat → Nat → Int32 → Option (rhM)} (hk7 : ∀ (M : rhM) (v0 : Nat) (v1 : Nat) (v2 : Nat) (v3 : Int32), rhF E 8 8 yX7_listPulls cX7_listPulls none Γ (rhe1U Γ) (k7 M v0 v1 v2 v3) 7 [(0, rhR v0), (1, rhR v1), (2, rhR v2), (3, rhI v3)] [] Γ M) : ∀ (M : rhM) (v0 : Nat) (v1 : Nat) (v2 : Nat) (v3 : Int32), rhF E 8 8 yX7_listPulls cX7_listPulls none Γ (rhe1U Γ) (f_X7_listPulls_180 k7 Γ M v0 v1 v2 v3) 180 [(0, rhR v0), (1, rhR v1), (2, rhR v2), (3, rhI v3)] [] Γ M := by
  intro M v0 v1 v2 v3
  rw [f_X7_listPulls_180]
  refine rhF.iinc (pc := 180) (L' := [(3, rhI _), (0, rhR _), (1, rhR _), (2, rhR _)]) dX7_listPulls_180 3 rfl rfl (by decide) rfl ?_
  refine rhF.goto (pc := 183) 7 dX7_listPulls_183 (by decide) ?_
  refine rhF.sub [1, 2, 3, 0] rfl ?_
  exact hk7 _ _ _ _ _
set_option maxHeartbeats 4000000 in
set_option maxRecDepth 100000 in
theorem b_X7_listPulls_7 {E : rhE} {Γ : rhG} : ∀ (n : Nat) (M : rhM) (v0 : Nat) (v1 : Nat) (v2 : Nat) (v3 : Int32), rhF E 8 8 yX7_listPulls cX7_listPulls none Γ (rhe1U Γ) (f_X7_listPulls_7 Γ n M v0 v1 v2 v3) 7 [(0, rhR v0), (1, rhR v1), (2, rhR v2), (3, rhI v3)] [] Γ M := by
  intro n
  induction n with
  | zero => intro M v0 v1 v2 v3; rw [f_X7_listPulls_7]; exact rhF.nope
  | succ n ih =>
    intro M v0 v1 v2 v3
    rw [f_X7_listPulls_7]
    refine rhF.iload_n (pc := 7) dX7_listPulls_7 3 rfl ?_
    refine rhF.aload_n (pc := 8) dX7_listPulls_8 0 rfl ?_
    refine rhF.ck (fun h3 => ?_)
    refine rhF.get (pc := 9) (rhI _) dX7_listPulls_9 fl_X7_41 h3 rfl ?_
    refine rhF.icmp_ge (pc := 12) 186 dX7_listPulls_12 (by decide) (fun h4 => ?_) (fun h4 => ?_)
    · refine rhF.iconst (pc := 15) (v := 0) dX7_listPulls_15 (by decide) ?_
      refine rhF.istore (pc := 16) (L' := [(4, rhI _), (0, rhR _), (1, rhR _), (2, rhR _), (3, rhI _)]) dX7_listPulls_16 (by decide) rfl ?_
      refine rhF.iconst (pc := 18) (v := 0) dX7_listPulls_18 (by decide) ?_
      refine rhF.istore (pc := 19) (L' := [(5, rhI _), (4, rhI _), (0, rhR _), (1, rhR _), (2, rhR _), (3, rhI _)]) dX7_listPulls_19 (by decide) rfl ?_
      refine rhF.aload_n (pc := 21) dX7_listPulls_21 2 rfl ?_
      refine rhF.get (pc := 22) (rhR _) dX7_listPulls_22 fl_X7_15 h3 rfl ?_
      refine rhF.iload_n (pc := 25) dX7_listPulls_25 5 rfl ?_
      refine rhF.ck (fun h5 => ?_)
      refine rhF.ck (fun h6 => ?_)
      refine rhF.iald (pc := 26) dX7_listPulls_26 h5 h6 ?_
      refine rhF.iconst (pc := 27) (v := 1) dX7_listPulls_27 (by decide) ?_
      refine rhF.isub (pc := 28) dX7_listPulls_28 ?_
      refine rhF.istore (pc := 29) (L' := [(6, rhI _), (5, rhI _), (4, rhI _), (0, rhR _), (1, rhR _), (2, rhR _), (3, rhI _)]) dX7_listPulls_29 (by decide) rfl ?_
      refine rhF.sub [3, 4, 5, 6, 2, 1, 0] rfl ?_
      exact (b_X7_listPulls_31 (b_X7_listPulls_180 ih) rhFU) _ _ _ _ _ _ _ _
    · exact rhF.vret (pc := 186) dX7_listPulls_186 rfl rfl
set_option maxHeartbeats 4000000 in
set_option maxRecDepth 100000 in
theorem b_X7_listPulls {E : rhE} {Γ : rhG} : ∀ (M : rhM) (v0 : Nat) (v1 : Nat) (v2 : Nat), rhF E 8 8 yX7_listPulls cX7_listPulls none Γ (rhe1U Γ) (f_X7_listPulls Γ M v0 v1 v2) 0 [(0, rhR v0), (1, rhR v1), (2, rhR v2)] [] Γ M := by
  intro M v0 v1 v2
  rw [f_X7_listPulls]
  refine rhF.aload_n (pc := 0) dX7_listPulls_0 0 rfl ?_
  refine rhF.iconst (pc := 1) (v := 0) dX7_listPulls_1 (by decide) ?_
  refine rhF.ck (fun h1 => ?_)
  refine rhF.puti (pc := 2) dX7_listPulls_2 fl_X7_75 h1 (fun q hq => by cases hq; exact Or.inl rfl) ⟨rfl, rfl⟩ (fun _ => rfl) ?_
  refine rhF.iconst (pc := 5) (v := 0) dX7_listPulls_5 (by decide) ?_
  refine rhF.istore_n (pc := 6) (L' := [(3, rhI _), (0, rhR _), (1, rhR _), (2, rhR _)]) dX7_listPulls_6 (by decide) rfl ?_
  refine rhF.sub [1, 2, 3, 0] rfl ?_
  exact (b_X7_listPulls_7 rhFU) _ _ _ _ _
theorem c_X7_listPulls (E : rhE) (Γ : rhG) (M : rhM) (v0 : Nat) (v1 : Nat) (v2 : Nat) : ∀ a, f_X7_listPulls Γ M v0 v1 v2 = some a → rhC E 8 yX7_listPulls cX7_listPulls 8 none [rhR v0, rhR v1, rhR v2] Γ M ((rhe1U Γ) a) := rhF.met (by decide +kernel) (Nat.le_of_ble_eq_true rfl) (b_X7_listPulls M v0 v1 v2)
def f_X7_look_128 (k50 : rhM → Nat → Int64 → Int32 → Int32 → Int32 → Option (rhM)) (Γ : rhG) (M : rhM) (v0 : Nat) (v2 : Int64) (v4 : Int32) (v5 : Int32) (v6 : Int32) : Option (rhM) :=
  let x19 : Int32 := v6 + 1
  k50 M v0 v2 v4 v5 x19
def f_X7_look_50 (k134 : rhM → Nat → Int32 → Int32 → Option (rhM)) (Γ : rhG) : Nat → rhM → Nat → Int64 → Int32 → Int32 → Int32 → Option (rhM)
  | 0, _, _, _, _, _, _ => none
  | n + 1, M, v0, v2, v4, v5, v6 =>
    if v6 < v4 then
      ((f_X7_digitOf Γ M v2 v6).bind fun r13 =>
      if r13 < 8 then
        (rhck (Γ.2.2.1 v0 = 8) <|
        rhck (Γ.2.2.1 (M.2.2 v0 4) = 15) <|
        rhck (0 ≤ (v5).toInt ∧ (v5).toInt < (Γ.2.2.2 (M.2.2 v0 4) : Nat)) <|
        let M18 := rhsi M (M.2.2 v0 4) (v5 : Int32).toNatClampNeg ((M.1 (M.2.2 v0 4) v5.toNatClampNeg) ||| (1 <<< (r13 &&& 31)))
        f_X7_look_128 (f_X7_look_50 k134 Γ n) Γ M18 v0 v2 v4 v5 v6)
      else
        if (v5 + 1) < 5 then
          (rhck (Γ.2.2.1 v0 = 8) <|
          rhck (Γ.2.2.1 (M.2.2 v0 3) = 15) <|
          rhck (0 ≤ (v5).toInt ∧ (v5).toInt < (Γ.2.2.2 (M.2.2 v0 3) : Nat)) <|
          let M24 := rhsi M (M.2.2 v0 3) (v5 : Int32).toNatClampNeg v6
          let x25 : Int32 := v5 + 1
          rhck (Γ.2.2.1 (M.2.2 v0 2) = 15) <|
          rhck (0 ≤ (x25).toInt ∧ (x25).toInt < (Γ.2.2.2 (M.2.2 v0 2) : Nat)) <|
          let M28 := rhsi M24 (M.2.2 v0 2) (x25 : Int32).toNatClampNeg (v6 + 1)
          rhck (Γ.2.2.1 (M.2.2 v0 4) = 15) <|
          rhck (0 ≤ (x25).toInt ∧ (x25).toInt < (Γ.2.2.2 (M.2.2 v0 4) : Nat)) <|
          let M31 := rhsi M28 (M.2.2 v0 4) (x25 : Int32).toNatClampNeg 0
          f_X7_look_128 (f_X7_look_50 k134 Γ n) Γ M31 v0 v2 v4 x25 v6)
        else
          f_X7_look_128 (f_X7_look_50 k134 Γ n) Γ M v0 v2 v4 v5 v6)
    else
      k134 M v0 v4 v5
def f_X7_look_134 (Γ : rhG) (M : rhM) (v0 : Nat) (v4 : Int32) (v5 : Int32) : Option (rhM) :=
  rhck (Γ.2.2.1 v0 = 8) <|
  rhck (Γ.2.2.1 (M.2.2 v0 3) = 15) <|
  rhck (0 ≤ (v5).toInt ∧ (v5).toInt < (Γ.2.2.2 (M.2.2 v0 3) : Nat)) <|
  let M35 := rhsi M (M.2.2 v0 3) (v5 : Int32).toNatClampNeg v4
  some M35
def f_X7_look (Γ : rhG) (M : rhM) (v0 : Nat) (v1 : Nat) (v2 : Int64) : Option (rhM) :=
  rhck (Γ.2.2.1 v0 = 8) <|
  let M2 := rhsl M v0 0 v2
  rhck (Γ.2.2.1 v1 = 10) <|
  let M4 := rhsi M2 v0 1 (M.1 v1 0)
  let x5 : Int32 := if (((M4.1 v1 1) + (M4.1 v1 0)) - 1) < 0 then 0 else ((M4.1 v1 1) + (M4.1 v1 0)) - 1
  rhck (Γ.2.2.1 (M.2.2 v0 2) = 15) <|
  rhck (0 ≤ (0 : Int32).toInt ∧ (0 : Int32).toInt < (Γ.2.2.2 (M.2.2 v0 2) : Nat)) <|
  let M8 := rhsi M4 (M.2.2 v0 2) (0 : Int32).toNatClampNeg 0
  rhck (Γ.2.2.1 (M.2.2 v0 4) = 15) <|
  rhck (0 ≤ (0 : Int32).toInt ∧ (0 : Int32).toInt < (Γ.2.2.2 (M.2.2 v0 4) : Nat)) <|
  let M11 := rhsi M8 (M.2.2 v0 4) (0 : Int32).toNatClampNeg 0
  f_X7_look_50 (f_X7_look_134 Γ) Γ rhFU M11 v0 v2 x5 0 0
set_option maxHeartbeats 4000000 in
set_option maxRecDepth 100000 in
theorem b_X7_look_128 {E : rhE} {Γ : rhG} {k50 : rhM → Nat → Int64 → Int32 → Int32 → Int32 → Option (rhM)} (hk50 : ∀ (M : rhM) (v0 : Nat) (v2 : Int64) (v4 : Int32) (v5 : Int32) (v6 : Int32), rhF E 5 8 yX7_look cX7_look none Γ (rhe1U Γ) (k50 M v0 v2 v4 v5 v6) 50 [(0, rhR v0), (2, rhJ v2), (4, rhI v4), (5, rhI v5), (6, rhI v6)] [] Γ M) : ∀ (M : rhM) (v0 : Nat) (v2 : Int64) (v4 : Int32) (v5 : Int32) (v6 : Int32), rhF E 5 8 yX7_look cX7_look none Γ (rhe1U Γ) (f_X7_look_128 k50 Γ M v0 v2 v4 v5 v6) 128 [(0, rhR v0), (2, rhJ v2), (4, rhI v4), (5, rhI v5), (6, rhI v6)] [] Γ M := by
  intro M v0 v2 v4 v5 v6
  rw [f_X7_look_128]
  refine rhF.iinc (pc := 128) (L' := [(6, rhI _), (0, rhR _), (2, rhJ _), (4, rhI _), (5, rhI _)]) dX7_look_128 4 rfl rfl (by decide) rfl ?_
  refine rhF.goto (pc := 131) 50 dX7_look_131 (by decide) ?_
  refine rhF.sub [1, 2, 3, 4, 0] rfl ?_
  exact hk50 _ _ _ _ _ _
set_option maxHeartbeats 4000000 in
set_option maxRecDepth 100000 in
theorem b_X7_look_50 {E : rhE} {Γ : rhG} {k134 : rhM → Nat → Int32 → Int32 → Option (rhM)} (hk134 : ∀ (M : rhM) (v0 : Nat) (v4 : Int32) (v5 : Int32), rhF E 5 8 yX7_look cX7_look none Γ (rhe1U Γ) (k134 M v0 v4 v5) 134 [(0, rhR v0), (4, rhI v4), (5, rhI v5)] [] Γ M) : ∀ (n : Nat) (M : rhM) (v0 : Nat) (v2 : Int64) (v4 : Int32) (v5 : Int32) (v6 : Int32), rhF E 5 8 yX7_look cX7_look none Γ (rhe1U Γ) (f_X7_look_50 k134 Γ n M v0 v2 v4 v5 v6) 50 [(0, rhR v0), (2, rhJ v2), (4, rhI v4), (5, rhI v5), (6, rhI v6)] [] Γ M := by
  intro n
  induction n with
  | zero => intro M v0 v2 v4 v5 v6; rw [f_X7_look_50]; exact rhF.nope
  | succ n ih =>
    intro M v0 v2 v4 v5 v6
    rw [f_X7_look_50]
    refine rhF.iload (pc := 50) dX7_look_50 4 rfl ?_
    refine rhF.iload (pc := 52) dX7_look_52 2 rfl ?_
    refine rhF.icmp_ge (pc := 54) 134 dX7_look_54 (by decide) (fun h12 => ?_) (fun h12 => ?_)
    · refine rhF.lload_n (pc := 57) dX7_look_57 1 rfl ?_
      refine rhF.iload (pc := 58) dX7_look_58 4 rfl ?_
      refine rhF.callS (pc := 60) (embc := rhe0I _ _) [rhJ _, rhI _] dX7_look_60 ml_X7_51 ms_X7_digitOf (c_X7_digitOf _ _ _ _ _) (by decide) (by decide) rfl (Nat.le_of_ble_eq_true rfl) (fun r13 _ => ?_)
      refine rhF.istore (pc := 63) (L' := [(7, rhI _), (0, rhR _), (2, rhJ _), (4, rhI _), (5, rhI _), (6, rhI _)]) dX7_look_63 (by decide) rfl ?_
      refine rhF.iload (pc := 65) dX7_look_65 0 rfl ?_
      refine rhF.bipush (pc := 67) (v := 8) dX7_look_67 (by decide) ?_
      refine rhF.icmp_ge (pc := 69) 89 dX7_look_69 (by decide) (fun h14 => ?_) (fun h14 => ?_)
      · refine rhF.aload_n (pc := 72) dX7_look_72 1 rfl ?_
        refine rhF.ck (fun h15 => ?_)
        refine rhF.get (pc := 73) (rhR _) dX7_look_73 fl_X7_18 h15 rfl ?_
        refine rhF.iload (pc := 76) dX7_look_76 4 rfl ?_
        refine rhF.dup2ri (pc := 78) dX7_look_78 ?_
        refine rhF.ck (fun h16 => ?_)
        refine rhF.ck (fun h17 => ?_)
        refine rhF.iald (pc := 79) dX7_look_79 h16 h17 ?_
        refine rhF.iconst (pc := 80) (v := 1) dX7_look_80 (by decide) ?_
        refine rhF.iload (pc := 81) dX7_look_81 0 rfl ?_
        refine rhF.ishl (pc := 83) dX7_look_83 ?_
        refine rhF.ior (pc := 84) dX7_look_84 ?_
        refine rhF.iast (pc := 85) dX7_look_85 h16 h17 ?_
        refine rhF.goto (pc := 86) 128 dX7_look_86 (by decide) ?_
        refine rhF.sub [1, 2, 3, 4, 5] rfl ?_
        exact (b_X7_look_128 ih) _ _ _ _ _ _
      · refine rhF.iload (pc := 89) dX7_look_89 4 rfl ?_
        refine rhF.iconst (pc := 91) (v := 1) dX7_look_91 (by decide) ?_
        refine rhF.iadd (pc := 92) dX7_look_92 ?_
        refine rhF.iconst (pc := 93) (v := 5) dX7_look_93 (by decide) ?_
        refine rhF.icmp_ge (pc := 94) 128 dX7_look_94 (by decide) (fun h20 => ?_) (fun h20 => ?_)
        · refine rhF.aload_n (pc := 97) dX7_look_97 1 rfl ?_
          refine rhF.ck (fun h21 => ?_)
          refine rhF.get (pc := 98) (rhR _) dX7_look_98 fl_X7_15 h21 rfl ?_
          refine rhF.iload (pc := 101) dX7_look_101 4 rfl ?_
          refine rhF.iload (pc := 103) dX7_look_103 5 rfl ?_
          refine rhF.ck (fun h22 => ?_)
          refine rhF.ck (fun h23 => ?_)
          refine rhF.iast (pc := 105) dX7_look_105 h22 h23 ?_
          refine rhF.iinc (pc := 106) (L' := [(5, rhI _), (7, rhI _), (0, rhR _), (2, rhJ _), (4, rhI _), (6, rhI _)]) dX7_look_106 4 rfl rfl (by decide) rfl ?_
          refine rhF.aload_n (pc := 109) dX7_look_109 2 rfl ?_
          refine rhF.get (pc := 110) (rhR _) dX7_look_110 fl_X7_9 h21 rfl ?_
          refine rhF.iload (pc := 113) dX7_look_113 0 rfl ?_
          refine rhF.iload (pc := 115) dX7_look_115 5 rfl ?_
          refine rhF.iconst (pc := 117) (v := 1) dX7_look_117 (by decide) ?_
          refine rhF.iadd (pc := 118) dX7_look_118 ?_
          refine rhF.ck (fun h26 => ?_)
          refine rhF.ck (fun h27 => ?_)
          refine rhF.iast (pc := 119) dX7_look_119 h26 h27 ?_
          refine rhF.aload_n (pc := 120) dX7_look_120 2 rfl ?_
          refine rhF.get (pc := 121) (rhR _) dX7_look_121 fl_X7_18 h21 rfl ?_
          refine rhF.iload (pc := 124) dX7_look_124 0 rfl ?_
          refine rhF.iconst (pc := 126) (v := 0) dX7_look_126 (by decide) ?_
          refine rhF.ck (fun h29 => ?_)
          refine rhF.ck (fun h30 => ?_)
          refine rhF.iast (pc := 127) dX7_look_127 h29 h30 ?_
          refine rhF.sub [2, 3, 4, 0, 5] rfl ?_
          exact (b_X7_look_128 ih) _ _ _ _ _ _
        · refine rhF.sub [1, 2, 3, 4, 5] rfl ?_
          exact (b_X7_look_128 ih) _ _ _ _ _ _
    · refine rhF.sub [0, 2, 3] rfl ?_
      exact hk134 _ _ _ _
set_option maxHeartbeats 4000000 in
set_option maxRecDepth 100000 in
theorem b_X7_look_134 {E : rhE} {Γ : rhG} : ∀ (M : rhM) (v0 : Nat) (v4 : Int32) (v5 : Int32), rhF E 5 8 yX7_look cX7_look none Γ (rhe1U Γ) (f_X7_look_134 Γ M v0 v4 v5) 134 [(0, rhR v0), (4, rhI v4), (5, rhI v5)] [] Γ M := by
  intro M v0 v4 v5
  rw [f_X7_look_134]
  refine rhF.aload_n (pc := 134) dX7_look_134 0 rfl ?_
  refine rhF.ck (fun h32 => ?_)
  refine rhF.get (pc := 135) (rhR _) dX7_look_135 fl_X7_15 h32 rfl ?_
  refine rhF.iload (pc := 138) dX7_look_138 2 rfl ?_
  refine rhF.iload (pc := 140) dX7_look_140 1 rfl ?_
  refine rhF.ck (fun h33 => ?_)
  refine rhF.ck (fun h34 => ?_)
  refine rhF.iast (pc := 142) dX7_look_142 h33 h34 ?_
  exact rhF.vret (pc := 143) dX7_look_143 rfl rfl
set_option maxHeartbeats 4000000 in
set_option maxRecDepth 100000 in
theorem b_X7_look {E : rhE} {Γ : rhG} : ∀ (M : rhM) (v0 : Nat) (v1 : Nat) (v2 : Int64), rhF E 5 8 yX7_look cX7_look none Γ (rhe1U Γ) (f_X7_look Γ M v0 v1 v2) 0 [(0, rhR v0), (1, rhR v1), (2, rhJ v2)] [] Γ M := by
  intro M v0 v1 v2
  rw [f_X7_look]
  refine rhF.aload_n (pc := 0) dX7_look_0 0 rfl ?_
  refine rhF.lload_n (pc := 1) dX7_look_1 2 rfl ?_
  refine rhF.ck (fun h1 => ?_)
  refine rhF.putl (pc := 2) dX7_look_2 fl_X7_31 h1 (fun q hq => by cases hq; exact Or.inl rfl) ⟨rfl, rfl⟩ (fun _ => rfl) ?_
  refine rhF.aload_n (pc := 5) dX7_look_5 0 rfl ?_
  refine rhF.aload_n (pc := 6) dX7_look_6 1 rfl ?_
  refine rhF.ck (fun h3 => ?_)
  refine rhF.get (pc := 7) (rhI _) dX7_look_7 fl_X7_35 h3 rfl ?_
  refine rhF.puti (pc := 10) dX7_look_10 fl_X7_41 h1 (fun q hq => by cases hq; exact Or.inl rfl) ⟨rfl, rfl⟩ (fun _ => rfl) ?_
  refine rhF.aload_n (pc := 13) dX7_look_13 1 rfl ?_
  refine rhF.get (pc := 14) (rhI _) dX7_look_14 fl_X7_42 h3 rfl ?_
  refine rhF.aload_n (pc := 17) dX7_look_17 1 rfl ?_
  refine rhF.get (pc := 18) (rhI _) dX7_look_18 fl_X7_35 h3 rfl ?_
  refine rhF.iadd (pc := 21) dX7_look_21 ?_
  refine rhF.iconst (pc := 22) (v := 1) dX7_look_22 (by decide) ?_
  refine rhF.isub (pc := 23) dX7_look_23 ?_
  refine rhF.iconst (pc := 24) (v := 0) dX7_look_24 (by decide) ?_
  refine rhF.mmax (pc := 25) dX7_look_25 mm_X7_45 (by decide) (Nat.le_of_ble_eq_true rfl) ?_
  refine rhF.istore (pc := 28) (L' := [(4, rhI _), (0, rhR _), (1, rhR _), (2, rhJ _)]) dX7_look_28 (by decide) rfl ?_
  refine rhF.iconst (pc := 30) (v := 0) dX7_look_30 (by decide) ?_
  refine rhF.istore (pc := 31) (L' := [(5, rhI _), (4, rhI _), (0, rhR _), (1, rhR _), (2, rhJ _)]) dX7_look_31 (by decide) rfl ?_
  refine rhF.aload_n (pc := 33) dX7_look_33 2 rfl ?_
  refine rhF.get (pc := 34) (rhR _) dX7_look_34 fl_X7_9 h1 rfl ?_
  refine rhF.iconst (pc := 37) (v := 0) dX7_look_37 (by decide) ?_
  refine rhF.iconst (pc := 38) (v := 0) dX7_look_38 (by decide) ?_
  refine rhF.ck (fun h6 => ?_)
  refine rhF.ck (fun h7 => ?_)
  refine rhF.iast (pc := 39) dX7_look_39 h6 h7 ?_
  refine rhF.aload_n (pc := 40) dX7_look_40 2 rfl ?_
  refine rhF.get (pc := 41) (rhR _) dX7_look_41 fl_X7_18 h1 rfl ?_
  refine rhF.iconst (pc := 44) (v := 0) dX7_look_44 (by decide) ?_
  refine rhF.iconst (pc := 45) (v := 0) dX7_look_45 (by decide) ?_
  refine rhF.ck (fun h9 => ?_)
  refine rhF.ck (fun h10 => ?_)
  refine rhF.iast (pc := 46) dX7_look_46 h9 h10 ?_
  refine rhF.iconst (pc := 47) (v := 0) dX7_look_47 (by decide) ?_
  refine rhF.istore (pc := 48) (L' := [(6, rhI _), (5, rhI _), (4, rhI _), (0, rhR _), (1, rhR _), (2, rhJ _)]) dX7_look_48 (by decide) rfl ?_
  refine rhF.sub [3, 5, 2, 1, 0] rfl ?_
  exact (b_X7_look_50 (b_X7_look_134) rhFU) _ _ _ _ _ _
theorem c_X7_look (E : rhE) (Γ : rhG) (M : rhM) (v0 : Nat) (v1 : Nat) (v2 : Int64) : ∀ a, f_X7_look Γ M v0 v1 v2 = some a → rhC E 5 yX7_look cX7_look 8 none [rhR v0, rhR v1, rhJ v2] Γ M ((rhe1U Γ) a) := rhF.met (by decide +kernel) (Nat.le_of_ble_eq_true rfl) (b_X7_look M v0 v1 v2)
def f_X5_goOn_110 (k37 : rhM → Nat → Int32 → Int32 → Option (Int32 × rhM)) (Γ : rhG) (M : rhM) (v0 : Nat) (v1 : Int32) (v2 : Int32) : Option (Int32 × rhM) :=
  let x26 : Int32 := v2 + 1
  k37 M v0 v1 x26
def f_X5_goOn_37 (Γ : rhG) : Nat → rhM → Nat → Int32 → Int32 → Option (Int32 × rhM)
  | 0, _, _, _, _ => none
  | n + 1, M, v0, v1, v2 =>
    rhck (Γ.2.2.1 v0 = 6) <|
    rhck (Γ.2.2.1 (M.2.2 v0 5) = 8) <|
    if v2 < (M.1 (M.2.2 v0 5) 5) then
      (rhck (Γ.2.2.1 (M.2.2 (M.2.2 v0 5) 6) = 16) <|
      rhck (0 ≤ (v2).toInt ∧ (v2).toInt < (Γ.2.2.2 (M.2.2 (M.2.2 v0 5) 6) : Nat)) <|
      rhck (Γ.2.2.1 (M.2.2 v0 2) = 1) <|
      (f_X0_numberOf Γ M (M.2.2 v0 2) (M.2.1 (M.2.2 (M.2.2 v0 5) 6) v2.toNatClampNeg)).bind fun r15 =>
      if r15.1 = ((-1)) then
        (rhck (Γ.2.2.1 (r15.2.2.2 v0 5) = 8) <|
        rhck (Γ.2.2.1 (r15.2.2.2 (r15.2.2.2 v0 5) 6) = 16) <|
        rhck (0 ≤ (v2).toInt ∧ (v2).toInt < (Γ.2.2.2 (r15.2.2.2 (r15.2.2.2 v0 5) 6) : Nat)) <|
        rhck (Γ.2.2.1 (r15.2.2.2 (r15.2.2.2 v0 5) 7) = 15) <|
        rhck (0 ≤ (v2).toInt ∧ (v2).toInt < (Γ.2.2.2 (r15.2.2.2 (r15.2.2.2 v0 5) 7) : Nat)) <|
        rhck (Γ.2.2.1 (r15.2.2.2 v0 2) = 1) <|
        (f_X0_add Γ r15.2 (r15.2.2.2 v0 2) (r15.2.2.1 (r15.2.2.2 (r15.2.2.2 v0 5) 6) v2.toNatClampNeg) v1 (r15.2.1 (r15.2.2.2 (r15.2.2.2 v0 5) 7) v2.toNatClampNeg)).bind fun r23 =>
        let x24 := r23.1
        if x24 = ((-1)) then
          (f_X5_goOn_110 (f_X5_goOn_37 Γ n) Γ r23.2 v0 v1 v2)
        else
          (f_X5_isMet Γ r23.2 v0 x24).bind fun r27 =>
          if r27.1 = 0 then
            (f_X5_goOn_110 (f_X5_goOn_37 Γ n) Γ r27.2 v0 v1 v2)
          else
            some ((x24, r27.2)))
      else
        f_X5_goOn_110 (f_X5_goOn_37 Γ n) Γ r15.2 v0 v1 v2)
    else
      some (((-1), M))
def f_X5_goOn (Γ : rhG) (M : rhM) (v0 : Nat) (v1 : Int32) : Option (Int32 × rhM) :=
  rhck (Γ.2.2.1 v0 = 6) <|
  rhck (Γ.2.2.1 (M.2.2 v0 2) = 1) <|
  rhck (Γ.2.2.1 (M.2.2 (M.2.2 v0 2) 1) = 16) <|
  rhck (0 ≤ (v1).toInt ∧ (v1).toInt < (Γ.2.2.2 (M.2.2 (M.2.2 v0 2) 1) : Nat)) <|
  rhck (Γ.2.2.1 (M.2.2 v0 5) = 8) <|
  (f_X7_look Γ M (M.2.2 v0 5) (M.2.2 v0 6) (M.2.1 (M.2.2 (M.2.2 v0 2) 1) v1.toNatClampNeg)).bind fun r6 =>
  rhck (Γ.2.2.1 (r6.2.2 v0 5) = 8) <|
  (f_X7_listPulls Γ r6 (r6.2.2 v0 5) (r6.2.2 v0 6) (r6.2.2 v0 4)).bind fun r8 =>
  f_X5_goOn_37 Γ rhFU r8 v0 v1 0
set_option maxHeartbeats 4000000 in
set_option maxRecDepth 100000 in
theorem b_X5_goOn_110 {E : rhE} {Γ : rhG} {k37 : rhM → Nat → Int32 → Int32 → Option (Int32 × rhM)} (hk37 : ∀ (M : rhM) (v0 : Nat) (v1 : Int32) (v2 : Int32), rhF E 9 4 yX5_goOn cX5_goOn (some .int) Γ (rhe1I Γ) (k37 M v0 v1 v2) 37 [(0, rhR v0), (1, rhI v1), (2, rhI v2)] [] Γ M) : ∀ (M : rhM) (v0 : Nat) (v1 : Int32) (v2 : Int32), rhF E 9 4 yX5_goOn cX5_goOn (some .int) Γ (rhe1I Γ) (f_X5_goOn_110 k37 Γ M v0 v1 v2) 110 [(0, rhR v0), (1, rhI v1), (2, rhI v2)] [] Γ M := by
  intro M v0 v1 v2
  rw [f_X5_goOn_110]
  refine rhF.iinc (pc := 110) (L' := [(2, rhI _), (0, rhR _), (1, rhI _)]) dX5_goOn_110 2 rfl rfl (by decide) rfl ?_
  refine rhF.goto (pc := 113) 37 dX5_goOn_113 (by decide) ?_
  refine rhF.sub [1, 2, 0] rfl ?_
  exact hk37 _ _ _ _
set_option maxHeartbeats 4000000 in
set_option maxRecDepth 100000 in
theorem b_X5_goOn_37 {E : rhE} {Γ : rhG} : ∀ (n : Nat) (M : rhM) (v0 : Nat) (v1 : Int32) (v2 : Int32), rhF E 9 4 yX5_goOn cX5_goOn (some .int) Γ (rhe1I Γ) (f_X5_goOn_37 Γ n M v0 v1 v2) 37 [(0, rhR v0), (1, rhI v1), (2, rhI v2)] [] Γ M := by
  intro n
  induction n with
  | zero => intro M v0 v1 v2; rw [f_X5_goOn_37]; exact rhF.nope
  | succ n ih =>
    intro M v0 v1 v2
    rw [f_X5_goOn_37]
    refine rhF.iload_n (pc := 37) dX5_goOn_37 2 rfl ?_
    refine rhF.aload_n (pc := 38) dX5_goOn_38 0 rfl ?_
    refine rhF.ck (fun h9 => ?_)
    refine rhF.get (pc := 39) (rhR _) dX5_goOn_39 fl_X5_12 h9 rfl ?_
    refine rhF.ck (fun h10 => ?_)
    refine rhF.get (pc := 42) (rhI _) dX5_goOn_42 fl_X5_138 h10 rfl ?_
    refine rhF.icmp_ge (pc := 45) 116 dX5_goOn_45 (by decide) (fun h11 => ?_) (fun h11 => ?_)
    · refine rhF.aload_n (pc := 48) dX5_goOn_48 0 rfl ?_
      refine rhF.get (pc := 49) (rhR _) dX5_goOn_49 fl_X5_32 h9 rfl ?_
      refine rhF.aload_n (pc := 52) dX5_goOn_52 0 rfl ?_
      refine rhF.get (pc := 53) (rhR _) dX5_goOn_53 fl_X5_12 h9 rfl ?_
      refine rhF.get (pc := 56) (rhR _) dX5_goOn_56 fl_X5_141 h10 rfl ?_
      refine rhF.iload_n (pc := 59) dX5_goOn_59 2 rfl ?_
      refine rhF.ck (fun h12 => ?_)
      refine rhF.ck (fun h13 => ?_)
      refine rhF.lald (pc := 60) dX5_goOn_60 h12 h13 ?_
      refine rhF.ck (fun h14 => ?_)
      refine rhF.callV (pc := 61) (ci := 0) (embc := rhe1I _) [rhJ _] dX5_goOn_61 ml_X5_104 mv_X0_numberOf ⟨_, rfl, rfl⟩ h14 (c_X0_numberOf _ _ _ _ _) (by decide) (by decide) rfl (Nat.le_of_ble_eq_true rfl) (fun r15 _ => ?_)
      refine rhF.iconst (pc := 64) (v := (-1)) dX5_goOn_64 (by decide) ?_
      refine rhF.icmp_ne (pc := 65) 110 dX5_goOn_65 (by decide) (fun h16 => ?_) (fun h16 => ?_)
      · refine rhF.aload_n (pc := 68) dX5_goOn_68 0 rfl ?_
        refine rhF.get (pc := 69) (rhR _) dX5_goOn_69 fl_X5_32 h9 rfl ?_
        refine rhF.aload_n (pc := 72) dX5_goOn_72 0 rfl ?_
        refine rhF.get (pc := 73) (rhR _) dX5_goOn_73 fl_X5_12 h9 rfl ?_
        refine rhF.ck (fun h17 => ?_)
        refine rhF.get (pc := 76) (rhR _) dX5_goOn_76 fl_X5_141 h17 rfl ?_
        refine rhF.iload_n (pc := 79) dX5_goOn_79 2 rfl ?_
        refine rhF.ck (fun h18 => ?_)
        refine rhF.ck (fun h19 => ?_)
        refine rhF.lald (pc := 80) dX5_goOn_80 h18 h19 ?_
        refine rhF.iload_n (pc := 81) dX5_goOn_81 1 rfl ?_
        refine rhF.aload_n (pc := 82) dX5_goOn_82 0 rfl ?_
        refine rhF.get (pc := 83) (rhR _) dX5_goOn_83 fl_X5_12 h9 rfl ?_
        refine rhF.get (pc := 86) (rhR _) dX5_goOn_86 fl_X5_144 h17 rfl ?_
        refine rhF.iload_n (pc := 89) dX5_goOn_89 2 rfl ?_
        refine rhF.ck (fun h20 => ?_)
        refine rhF.ck (fun h21 => ?_)
        refine rhF.iald (pc := 90) dX5_goOn_90 h20 h21 ?_
        refine rhF.ck (fun h22 => ?_)
        refine rhF.callV (pc := 91) (ci := 0) (embc := rhe1I _) [rhJ _, rhI _, rhI _] dX5_goOn_91 ml_X5_108 mv_X0_add ⟨_, rfl, rfl⟩ h22 (c_X0_add _ _ _ _ _ _ _) (by decide) (by decide) rfl (Nat.le_of_ble_eq_true rfl) (fun r23 _ => ?_)
        refine rhF.istore_n (pc := 94) (L' := [(3, rhI _), (0, rhR _), (1, rhI _), (2, rhI _)]) dX5_goOn_94 (by decide) rfl ?_
        refine rhF.iload_n (pc := 95) dX5_goOn_95 0 rfl ?_
        refine rhF.iconst (pc := 96) (v := (-1)) dX5_goOn_96 (by decide) ?_
        refine rhF.icmp_eq (pc := 97) 110 dX5_goOn_97 (by decide) (fun h25 => ?_) (fun h25 => ?_)
        · refine rhF.sub [1, 2, 3] rfl ?_
          exact (b_X5_goOn_110 ih) _ _ _ _
        · refine rhF.aload_n (pc := 100) dX5_goOn_100 1 rfl ?_
          refine rhF.iload_n (pc := 101) dX5_goOn_101 0 rfl ?_
          refine rhF.callV (pc := 102) (ci := 5) (embc := rhe1I _) [rhI _] dX5_goOn_102 ml_X5_115 mv_X5_isMet ⟨_, rfl, rfl⟩ h9 (c_X5_isMet _ _ _ _ _) (by decide) (by decide) rfl (Nat.le_of_ble_eq_true rfl) (fun r27 _ => ?_)
          refine rhF.if_eq (pc := 105) 110 dX5_goOn_105 (by decide) (fun h28 => ?_) (fun h28 => ?_)
          · refine rhF.sub [1, 2, 3] rfl ?_
            exact (b_X5_goOn_110 ih) _ _ _ _
          · refine rhF.iload_n (pc := 108) dX5_goOn_108 0 rfl ?_
            exact rhF.zret (pc := 109) dX5_goOn_109 rfl rfl rfl
      · exact (b_X5_goOn_110 ih) _ _ _ _
    · refine rhF.iconst (pc := 116) (v := (-1)) dX5_goOn_116 (by decide) ?_
      exact rhF.zret (pc := 117) dX5_goOn_117 rfl rfl rfl
set_option maxHeartbeats 4000000 in
set_option maxRecDepth 100000 in
theorem b_X5_goOn {E : rhE} {Γ : rhG} : ∀ (M : rhM) (v0 : Nat) (v1 : Int32), rhF E 9 4 yX5_goOn cX5_goOn (some .int) Γ (rhe1I Γ) (f_X5_goOn Γ M v0 v1) 0 [(0, rhR v0), (1, rhI v1)] [] Γ M := by
  intro M v0 v1
  rw [f_X5_goOn]
  refine rhF.aload_n (pc := 0) dX5_goOn_0 0 rfl ?_
  refine rhF.ck (fun h1 => ?_)
  refine rhF.get (pc := 1) (rhR _) dX5_goOn_1 fl_X5_12 h1 rfl ?_
  refine rhF.aload_n (pc := 4) dX5_goOn_4 0 rfl ?_
  refine rhF.get (pc := 5) (rhR _) dX5_goOn_5 fl_X5_88 h1 rfl ?_
  refine rhF.aload_n (pc := 8) dX5_goOn_8 0 rfl ?_
  refine rhF.get (pc := 9) (rhR _) dX5_goOn_9 fl_X5_32 h1 rfl ?_
  refine rhF.ck (fun h2 => ?_)
  refine rhF.get (pc := 12) (rhR _) dX5_goOn_12 fl_X5_126 h2 rfl ?_
  refine rhF.iload_n (pc := 15) dX5_goOn_15 1 rfl ?_
  refine rhF.ck (fun h3 => ?_)
  refine rhF.ck (fun h4 => ?_)
  refine rhF.lald (pc := 16) dX5_goOn_16 h3 h4 ?_
  refine rhF.ck (fun h5 => ?_)
  refine rhF.callV (pc := 17) (ci := 7) (embc := rhe1U _) [rhR _, rhJ _] dX5_goOn_17 ml_X5_130 mv_X7_look ⟨_, rfl, rfl⟩ h5 (c_X7_look _ _ _ _ _ _) (by decide) (by decide) rfl (Nat.le_of_ble_eq_true rfl) (fun r6 _ => ?_)
  refine rhF.aload_n (pc := 20) dX5_goOn_20 0 rfl ?_
  refine rhF.get (pc := 21) (rhR _) dX5_goOn_21 fl_X5_12 h1 rfl ?_
  refine rhF.aload_n (pc := 24) dX5_goOn_24 0 rfl ?_
  refine rhF.get (pc := 25) (rhR _) dX5_goOn_25 fl_X5_88 h1 rfl ?_
  refine rhF.aload_n (pc := 28) dX5_goOn_28 0 rfl ?_
  refine rhF.get (pc := 29) (rhR _) dX5_goOn_29 fl_X5_56 h1 rfl ?_
  refine rhF.ck (fun h7 => ?_)
  refine rhF.callV (pc := 32) (ci := 7) (embc := rhe1U _) [rhR _, rhR _] dX5_goOn_32 ml_X5_134 mv_X7_listPulls ⟨_, rfl, rfl⟩ h7 (c_X7_listPulls _ _ _ _ _ _) (by decide) (by decide) rfl (Nat.le_of_ble_eq_true rfl) (fun r8 _ => ?_)
  refine rhF.iconst (pc := 35) (v := 0) dX5_goOn_35 (by decide) ?_
  refine rhF.istore_n (pc := 36) (L' := [(2, rhI _), (0, rhR _), (1, rhI _)]) dX5_goOn_36 (by decide) rfl ?_
  refine rhF.sub [1, 2, 0] rfl ?_
  exact (b_X5_goOn_37 rhFU) _ _ _ _
theorem c_X5_goOn (E : rhE) (Γ : rhG) (M : rhM) (v0 : Nat) (v1 : Int32) : ∀ a, f_X5_goOn Γ M v0 v1 = some a → rhC E 9 yX5_goOn cX5_goOn 4 (some .int) [rhR v0, rhI v1] Γ M ((rhe1I Γ) a) := rhF.met (by decide +kernel) (Nat.le_of_ble_eq_true rfl) (b_X5_goOn M v0 v1)
def f_X10_init (Γ : rhG) (M : rhM) (v0 : Nat) (v1 : Int32) : Option (rhG × rhM) :=
  rhck (Γ.2.2.1 v0 = 11) <|
  rhck (0 ≤ (1024 : Int32).toInt ∧ (1024 : Int32).toInt ≤ 67108864) <|
  let M4 := rhmn M (Γ.1 + 1)
  let G3 := rhgn Γ 15 (1024 : Int32).toNatClampNeg (1024 : Int32).toNatClampNeg
  rhck (G3.2.2.1 v0 = 11) <|
  let M6 := rhsr M4 v0 4 ((Γ.1 + 1))
  rhck (0 ≤ (v1 : Int32).toInt ∧ (v1 : Int32).toInt ≤ 67108864) <|
  let M9 := rhmn M6 (G3.1 + 1)
  let G8 := rhgn G3 15 (v1 : Int32).toNatClampNeg (v1 : Int32).toNatClampNeg
  rhck (G8.2.2.1 v0 = 11) <|
  let M11 := rhsr M9 v0 1 ((G3.1 + 1))
  rhck (0 ≤ (v1 : Int32).toInt ∧ (v1 : Int32).toInt ≤ 67108864) <|
  let M14 := rhmn M11 (G8.1 + 1)
  let G13 := rhgn G8 15 (v1 : Int32).toNatClampNeg (v1 : Int32).toNatClampNeg
  rhck (G13.2.2.1 v0 = 11) <|
  let M16 := rhsr M14 v0 2 ((G8.1 + 1))
  rhck (0 ≤ (v1 : Int32).toInt ∧ (v1 : Int32).toInt ≤ 67108864) <|
  let M19 := rhmn M16 (G13.1 + 1)
  let G18 := rhgn G13 15 (v1 : Int32).toNatClampNeg (v1 : Int32).toNatClampNeg
  rhck (G18.2.2.1 v0 = 11) <|
  let M21 := rhsr M19 v0 3 ((G13.1 + 1))
  some (G18, M21)
set_option maxHeartbeats 4000000 in
set_option maxRecDepth 100000 in
theorem b_X10_init {E : rhE} {Γ0 : rhG} : ∀ (Γ : rhG) (M : rhM) (v0 : Nat) (v1 : Int32), rhF E 5 2 yX10_init cX10_init none Γ0 rhe2U (f_X10_init Γ M v0 v1) 0 [(0, rhR v0), (1, rhI v1)] [] Γ M := by
  intro Γ M v0 v1
  rw [f_X10_init]
  refine rhF.aload_n (pc := 0) dX10_init_0 0 rfl ?_
  refine rhF.ck (fun h1 => ?_)
  refine rhF.objInit (pc := 1) dX10_init_1 oi_X10_3 (fun z => absurd (h1.symm.trans z) (by decide)) (by decide) (Nat.le_of_ble_eq_true rfl) ?_
  refine rhF.aload_n (pc := 4) dX10_init_4 0 rfl ?_
  refine rhF.sipush (pc := 5) (v := 1024) dX10_init_5 (by decide) ?_
  refine rhF.ck (fun h2 => ?_)
  refine rhF.newI (pc := 8) dX10_init_8 ac_int h2 ?_
  refine rhF.ck (fun h5 => ?_)
  refine rhF.putr (pc := 10) dX10_init_10 fl_X10_11 h5 (fun q hq => by cases hq; exact Or.inr ⟨rfl, rfl, rfl⟩) (Or.inr ⟨_, rfl⟩) (fun _ => rfl) ?_
  refine rhF.aload_n (pc := 13) dX10_init_13 0 rfl ?_
  refine rhF.iload_n (pc := 14) dX10_init_14 1 rfl ?_
  refine rhF.ck (fun h7 => ?_)
  refine rhF.newI (pc := 15) dX10_init_15 ac_int h7 ?_
  refine rhF.ck (fun h10 => ?_)
  refine rhF.putr (pc := 17) dX10_init_17 fl_X10_15 h10 (fun q hq => by cases hq; exact Or.inr ⟨rfl, rfl, rfl⟩) (Or.inr ⟨_, rfl⟩) (fun _ => rfl) ?_
  refine rhF.aload_n (pc := 20) dX10_init_20 0 rfl ?_
  refine rhF.iload_n (pc := 21) dX10_init_21 1 rfl ?_
  refine rhF.ck (fun h12 => ?_)
  refine rhF.newI (pc := 22) dX10_init_22 ac_int h12 ?_
  refine rhF.ck (fun h15 => ?_)
  refine rhF.putr (pc := 24) dX10_init_24 fl_X10_18 h15 (fun q hq => by cases hq; exact Or.inr ⟨rfl, rfl, rfl⟩) (Or.inr ⟨_, rfl⟩) (fun _ => rfl) ?_
  refine rhF.aload_n (pc := 27) dX10_init_27 0 rfl ?_
  refine rhF.iload_n (pc := 28) dX10_init_28 1 rfl ?_
  refine rhF.ck (fun h17 => ?_)
  refine rhF.newI (pc := 29) dX10_init_29 ac_int h17 ?_
  refine rhF.ck (fun h20 => ?_)
  refine rhF.putr (pc := 31) dX10_init_31 fl_X10_21 h20 (fun q hq => by cases hq; exact Or.inr ⟨rfl, rfl, rfl⟩) (Or.inr ⟨_, rfl⟩) (fun _ => rfl) ?_
  exact rhF.vret (pc := 34) dX10_init_34 rfl rfl
theorem c_X10_init (E : rhE) (Γ : rhG) (M : rhM) (v0 : Nat) (v1 : Int32) : ∀ a, f_X10_init Γ M v0 v1 = some a → rhC E 5 yX10_init cX10_init 2 none [rhR v0, rhI v1] Γ M (rhe2U a) := rhF.met (by decide +kernel) (Nat.le_of_ble_eq_true rfl) (b_X10_init (Γ0 := Γ) Γ M v0 v1)
def f_X7_init (Γ : rhG) (M : rhM) (v0 : Nat) : Option (rhG × rhM) :=
  rhck (Γ.2.2.1 v0 = 8) <|
  rhck (0 ≤ (5 : Int32).toInt ∧ (5 : Int32).toInt ≤ 67108864) <|
  let M4 := rhmn M (Γ.1 + 1)
  let G3 := rhgn Γ 15 (5 : Int32).toNatClampNeg (5 : Int32).toNatClampNeg
  rhck (G3.2.2.1 v0 = 8) <|
  let M6 := rhsr M4 v0 2 ((Γ.1 + 1))
  rhck (0 ≤ (5 : Int32).toInt ∧ (5 : Int32).toInt ≤ 67108864) <|
  let M9 := rhmn M6 (G3.1 + 1)
  let G8 := rhgn G3 15 (5 : Int32).toNatClampNeg (5 : Int32).toNatClampNeg
  rhck (G8.2.2.1 v0 = 8) <|
  let M11 := rhsr M9 v0 3 ((G3.1 + 1))
  rhck (0 ≤ (5 : Int32).toInt ∧ (5 : Int32).toInt ≤ 67108864) <|
  let M14 := rhmn M11 (G8.1 + 1)
  let G13 := rhgn G8 15 (5 : Int32).toNatClampNeg (5 : Int32).toNatClampNeg
  rhck (G13.2.2.1 v0 = 8) <|
  let M16 := rhsr M14 v0 4 ((G8.1 + 1))
  rhck (0 ≤ (32 : Int32).toInt ∧ (32 : Int32).toInt ≤ 67108864) <|
  let M19 := rhmn M16 (G13.1 + 1)
  let G18 := rhgn G13 16 (32 : Int32).toNatClampNeg (32 : Int32).toNatClampNeg
  rhck (G18.2.2.1 v0 = 8) <|
  let M21 := rhsr M19 v0 6 ((G13.1 + 1))
  rhck (0 ≤ (32 : Int32).toInt ∧ (32 : Int32).toInt ≤ 67108864) <|
  let M24 := rhmn M21 (G18.1 + 1)
  let G23 := rhgn G18 15 (32 : Int32).toNatClampNeg (32 : Int32).toNatClampNeg
  rhck (G23.2.2.1 v0 = 8) <|
  let M26 := rhsr M24 v0 7 ((G18.1 + 1))
  rhck (0 ≤ (32 : Int32).toInt ∧ (32 : Int32).toInt ≤ 67108864) <|
  let M29 := rhmn M26 (G23.1 + 1)
  let G28 := rhgn G23 15 (32 : Int32).toNatClampNeg (32 : Int32).toNatClampNeg
  rhck (G28.2.2.1 v0 = 8) <|
  let M31 := rhsr M29 v0 8 ((G23.1 + 1))
  some (G28, M31)
set_option maxHeartbeats 4000000 in
set_option maxRecDepth 100000 in
theorem b_X7_init {E : rhE} {Γ0 : rhG} : ∀ (Γ : rhG) (M : rhM) (v0 : Nat), rhF E 5 1 yX7_init cX7_init none Γ0 rhe2U (f_X7_init Γ M v0) 0 [(0, rhR v0)] [] Γ M := by
  intro Γ M v0
  rw [f_X7_init]
  refine rhF.aload_n (pc := 0) dX7_init_0 0 rfl ?_
  refine rhF.ck (fun h1 => ?_)
  refine rhF.objInit (pc := 1) dX7_init_1 oi_X7_3 (fun z => absurd (h1.symm.trans z) (by decide)) (by decide) (Nat.le_of_ble_eq_true rfl) ?_
  refine rhF.aload_n (pc := 4) dX7_init_4 0 rfl ?_
  refine rhF.iconst (pc := 5) (v := 5) dX7_init_5 (by decide) ?_
  refine rhF.ck (fun h2 => ?_)
  refine rhF.newI (pc := 6) dX7_init_6 ac_int h2 ?_
  refine rhF.ck (fun h5 => ?_)
  refine rhF.putr (pc := 8) dX7_init_8 fl_X7_9 h5 (fun q hq => by cases hq; exact Or.inr ⟨rfl, rfl, rfl⟩) (Or.inr ⟨_, rfl⟩) (fun _ => rfl) ?_
  refine rhF.aload_n (pc := 11) dX7_init_11 0 rfl ?_
  refine rhF.iconst (pc := 12) (v := 5) dX7_init_12 (by decide) ?_
  refine rhF.ck (fun h7 => ?_)
  refine rhF.newI (pc := 13) dX7_init_13 ac_int h7 ?_
  refine rhF.ck (fun h10 => ?_)
  refine rhF.putr (pc := 15) dX7_init_15 fl_X7_15 h10 (fun q hq => by cases hq; exact Or.inr ⟨rfl, rfl, rfl⟩) (Or.inr ⟨_, rfl⟩) (fun _ => rfl) ?_
  refine rhF.aload_n (pc := 18) dX7_init_18 0 rfl ?_
  refine rhF.iconst (pc := 19) (v := 5) dX7_init_19 (by decide) ?_
  refine rhF.ck (fun h12 => ?_)
  refine rhF.newI (pc := 20) dX7_init_20 ac_int h12 ?_
  refine rhF.ck (fun h15 => ?_)
  refine rhF.putr (pc := 22) dX7_init_22 fl_X7_18 h15 (fun q hq => by cases hq; exact Or.inr ⟨rfl, rfl, rfl⟩) (Or.inr ⟨_, rfl⟩) (fun _ => rfl) ?_
  refine rhF.aload_n (pc := 25) dX7_init_25 0 rfl ?_
  refine rhF.bipush (pc := 26) (v := 32) dX7_init_26 (by decide) ?_
  refine rhF.ck (fun h17 => ?_)
  refine rhF.newJ (pc := 28) dX7_init_28 ac_long h17 ?_
  refine rhF.ck (fun h20 => ?_)
  refine rhF.putr (pc := 30) dX7_init_30 fl_X7_21 h20 (fun q hq => by cases hq; exact Or.inr ⟨rfl, rfl, rfl⟩) (Or.inr ⟨_, rfl⟩) (fun _ => rfl) ?_
  refine rhF.aload_n (pc := 33) dX7_init_33 0 rfl ?_
  refine rhF.bipush (pc := 34) (v := 32) dX7_init_34 (by decide) ?_
  refine rhF.ck (fun h22 => ?_)
  refine rhF.newI (pc := 36) dX7_init_36 ac_int h22 ?_
  refine rhF.ck (fun h25 => ?_)
  refine rhF.putr (pc := 38) dX7_init_38 fl_X7_25 h25 (fun q hq => by cases hq; exact Or.inr ⟨rfl, rfl, rfl⟩) (Or.inr ⟨_, rfl⟩) (fun _ => rfl) ?_
  refine rhF.aload_n (pc := 41) dX7_init_41 0 rfl ?_
  refine rhF.bipush (pc := 42) (v := 32) dX7_init_42 (by decide) ?_
  refine rhF.ck (fun h27 => ?_)
  refine rhF.newI (pc := 44) dX7_init_44 ac_int h27 ?_
  refine rhF.ck (fun h30 => ?_)
  refine rhF.putr (pc := 46) dX7_init_46 fl_X7_28 h30 (fun q hq => by cases hq; exact Or.inr ⟨rfl, rfl, rfl⟩) (Or.inr ⟨_, rfl⟩) (fun _ => rfl) ?_
  exact rhF.vret (pc := 49) dX7_init_49 rfl rfl
theorem c_X7_init (E : rhE) (Γ : rhG) (M : rhM) (v0 : Nat) : ∀ a, f_X7_init Γ M v0 = some a → rhC E 5 yX7_init cX7_init 1 none [rhR v0] Γ M (rhe2U a) := rhF.met (by decide +kernel) (Nat.le_of_ble_eq_true rfl) (b_X7_init (Γ0 := Γ) Γ M v0)
def f_X5_init (Γ : rhG) (M : rhM) (v0 : Nat) (v1 : Nat) : Option (rhG × rhM) :=
  rhck (Γ.2.2.1 v0 = 6) <|
  let M3 := rhmn M (Γ.1 + 1)
  let G2 := rhgn Γ 8 0 9
  rhck (G2.2.2.1 ((Γ.1 + 1)) = 8) <|
  (f_X7_init G2 M3 ((Γ.1 + 1))).bind fun r5 =>
  rhck (r5.1.2.2.1 v0 = 6) <|
  let M7 := rhsr r5.2 v0 5 ((Γ.1 + 1))
  rhck (r5.1.2.2.1 v1 = 10) <|
  (f_X9_states r5.1 M7 v1).bind fun r9 =>
  let M10 := rhsi M7 v0 0 r9
  let M12 := rhmn M10 (r5.1.1 + 1)
  let G11 := rhgn r5.1 1 0 8
  rhck (G11.2.2.1 v0 = 6) <|
  rhck (G11.2.2.1 ((r5.1.1 + 1)) = 1) <|
  (f_X0_init G11 M12 ((r5.1.1 + 1)) (M12.1 v0 0)).bind fun r15 =>
  rhck (r15.1.2.2.1 v0 = 6) <|
  let M17 := rhsr r15.2 v0 2 ((r5.1.1 + 1))
  let M19 := rhmn M17 (r15.1.1 + 1)
  let G18 := rhgn r15.1 11 0 5
  rhck (G18.2.2.1 v0 = 6) <|
  rhck (G18.2.2.1 ((r15.1.1 + 1)) = 11) <|
  (f_X10_init G18 M19 ((r15.1.1 + 1)) (M19.1 v0 0)).bind fun r22 =>
  rhck (r22.1.2.2.1 v0 = 6) <|
  let M24 := rhsr r22.2 v0 3 ((r15.1.1 + 1))
  let M26 := rhmn M24 (r22.1.1 + 1)
  let G25 := rhgn r22.1 3 0 2
  rhck (G25.2.2.1 v1 = 10) <|
  (f_X2_placesFor G25 M26 (M26.1 v1 1) (M26.1 v1 0)).bind fun r28 =>
  rhck (G25.2.2.1 ((r22.1.1 + 1)) = 3) <|
  (f_X2_init G25 M26 ((r22.1.1 + 1)) r28).bind fun r30 =>
  rhck (r30.1.2.2.1 v0 = 6) <|
  let M32 := rhsr r30.2 v0 4 ((r22.1.1 + 1))
  some (r30.1, M32)
set_option maxHeartbeats 4000000 in
set_option maxRecDepth 100000 in
theorem b_X5_init {E : rhE} {Γ0 : rhG} : ∀ (Γ : rhG) (M : rhM) (v0 : Nat) (v1 : Nat), rhF E 6 2 yX5_init cX5_init none Γ0 rhe2U (f_X5_init Γ M v0 v1) 0 [(0, rhR v0), (1, rhR v1)] [] Γ M := by
  intro Γ M v0 v1
  rw [f_X5_init]
  refine rhF.aload_n (pc := 0) dX5_init_0 0 rfl ?_
  refine rhF.ck (fun h1 => ?_)
  refine rhF.objInit (pc := 1) dX5_init_1 oi_X5_3 (fun z => absurd (h1.symm.trans z) (by decide)) (by decide) (Nat.le_of_ble_eq_true rfl) ?_
  refine rhF.aload_n (pc := 4) dX5_init_4 0 rfl ?_
  refine rhF.new (pc := 5) (ci := 7) dX5_init_5 nw_X5_9 ?_
  refine rhF.dupr (pc := 8) dX5_init_8 ?_
  refine rhF.ck (fun h4 => ?_)
  refine rhF.callIN (pc := 9) (embc := rhe2U) "RailHouses" [] dX5_init_9 (by decide +kernel) ne_X5_11 mi_X7_init (fun z => absurd (h4.symm.trans z) (by decide)) (c_X7_init _ _ _ _) (by decide) (by decide) rfl (Nat.le_of_ble_eq_true rfl) (fun r5 _ => ?_)
  refine rhF.ck (fun h6 => ?_)
  refine rhF.putr (pc := 12) dX5_init_12 fl_X5_12 h6 (fun q hq => by cases hq; exact Or.inr ⟨rfl, rfl, rfl⟩) (Or.inl ⟨_, rfl⟩) (fun _ => rfl) ?_
  refine rhF.aload_n (pc := 15) dX5_init_15 0 rfl ?_
  refine rhF.aload_n (pc := 16) dX5_init_16 1 rfl ?_
  refine rhF.ck (fun h8 => ?_)
  refine rhF.callV (pc := 17) (ci := 9) (embc := rhe0I _ _) [] dX5_init_17 ml_X5_18 mv_X9_states ⟨_, rfl, rfl⟩ h8 (c_X9_states _ _ _ _) (by decide) (by decide) rfl (Nat.le_of_ble_eq_true rfl) (fun r9 _ => ?_)
  refine rhF.puti (pc := 20) dX5_init_20 fl_X5_24 h6 (fun q hq => by cases hq; exact Or.inr ⟨rfl, rfl, rfl⟩) ⟨rfl, rfl⟩ (fun _ => rfl) ?_
  refine rhF.aload_n (pc := 23) dX5_init_23 0 rfl ?_
  refine rhF.new (pc := 24) (ci := 0) dX5_init_24 nw_X5_27 ?_
  refine rhF.dupr (pc := 27) dX5_init_27 ?_
  refine rhF.aload_n (pc := 28) dX5_init_28 0 rfl ?_
  refine rhF.ck (fun h13 => ?_)
  refine rhF.get (pc := 29) (rhI _) dX5_init_29 fl_X5_24 h13 rfl ?_
  refine rhF.ck (fun h14 => ?_)
  refine rhF.callI (pc := 32) (embc := rhe2U) [rhI _] dX5_init_32 ml_X5_29 mi_X0_init (fun z => absurd (h14.symm.trans z) (by decide)) (c_X0_init _ _ _ _ _) (by decide) (by decide) rfl (Nat.le_of_ble_eq_true rfl) (fun r15 _ => ?_)
  refine rhF.ck (fun h16 => ?_)
  refine rhF.putr (pc := 35) dX5_init_35 fl_X5_32 h16 (fun q hq => by cases hq; exact Or.inr ⟨rfl, rfl, rfl⟩) (Or.inl ⟨_, rfl⟩) (fun _ => rfl) ?_
  refine rhF.aload_n (pc := 38) dX5_init_38 0 rfl ?_
  refine rhF.new (pc := 39) (ci := 10) dX5_init_39 nw_X5_36 ?_
  refine rhF.dupr (pc := 42) dX5_init_42 ?_
  refine rhF.aload_n (pc := 43) dX5_init_43 0 rfl ?_
  refine rhF.ck (fun h20 => ?_)
  refine rhF.get (pc := 44) (rhI _) dX5_init_44 fl_X5_24 h20 rfl ?_
  refine rhF.ck (fun h21 => ?_)
  refine rhF.callI (pc := 47) (embc := rhe2U) [rhI _] dX5_init_47 ml_X5_38 mi_X10_init (fun z => absurd (h21.symm.trans z) (by decide)) (c_X10_init _ _ _ _ _) (by decide) (by decide) rfl (Nat.le_of_ble_eq_true rfl) (fun r22 _ => ?_)
  refine rhF.ck (fun h23 => ?_)
  refine rhF.putr (pc := 50) dX5_init_50 fl_X5_39 h23 (fun q hq => by cases hq; exact Or.inr ⟨rfl, rfl, rfl⟩) (Or.inl ⟨_, rfl⟩) (fun _ => rfl) ?_
  refine rhF.aload_n (pc := 53) dX5_init_53 0 rfl ?_
  refine rhF.new (pc := 54) (ci := 2) dX5_init_54 nw_X5_43 ?_
  refine rhF.dupr (pc := 57) dX5_init_57 ?_
  refine rhF.aload_n (pc := 58) dX5_init_58 1 rfl ?_
  refine rhF.ck (fun h27 => ?_)
  refine rhF.get (pc := 59) (rhI _) dX5_init_59 fl_X5_45 h27 rfl ?_
  refine rhF.aload_n (pc := 62) dX5_init_62 1 rfl ?_
  refine rhF.get (pc := 63) (rhI _) dX5_init_63 fl_X5_48 h27 rfl ?_
  refine rhF.callS (pc := 66) (embc := rhe0I _ _) [rhI _, rhI _] dX5_init_66 ml_X5_51 ms_X2_placesFor (c_X2_placesFor _ _ _ _ _) (by decide) (by decide) rfl (Nat.le_of_ble_eq_true rfl) (fun r28 _ => ?_)
  refine rhF.ck (fun h29 => ?_)
  refine rhF.callI (pc := 69) (embc := rhe2U) [rhI _] dX5_init_69 ml_X5_55 mi_X2_init (fun z => absurd (h29.symm.trans z) (by decide)) (c_X2_init _ _ _ _ _) (by decide) (by decide) rfl (Nat.le_of_ble_eq_true rfl) (fun r30 _ => ?_)
  refine rhF.ck (fun h31 => ?_)
  refine rhF.putr (pc := 72) dX5_init_72 fl_X5_56 h31 (fun q hq => by cases hq; exact Or.inr ⟨rfl, rfl, rfl⟩) (Or.inl ⟨_, rfl⟩) (fun _ => rfl) ?_
  exact rhF.vret (pc := 75) dX5_init_75 rfl rfl
theorem c_X5_init (E : rhE) (Γ : rhG) (M : rhM) (v0 : Nat) (v1 : Nat) : ∀ a, f_X5_init Γ M v0 v1 = some a → rhC E 6 yX5_init cX5_init 2 none [rhR v0, rhR v1] Γ M (rhe2U a) := rhF.met (by decide +kernel) (Nat.le_of_ble_eq_true rfl) (b_X5_init (Γ0 := Γ) Γ M v0 v1)
def f_X5_isBetter (Γ : rhG) (M : rhM) (v0 : Nat) (v1 : Int32) (v2 : Int32) (v3 : Int32) : Option (Int32) :=
  rhck (Γ.2.2.1 v0 = 6) <|
  rhck (Γ.2.2.1 (M.2.2 v0 3) = 11) <|
  rhck (Γ.2.2.1 (M.2.2 (M.2.2 v0 3) 1) = 15) <|
  rhck (0 ≤ (v1).toInt ∧ (v1).toInt < (Γ.2.2.2 (M.2.2 (M.2.2 v0 3) 1) : Nat)) <|
  if v3 = (M.1 (M.2.2 (M.2.2 v0 3) 1) v1.toNatClampNeg) then
    (rhck (Γ.2.2.1 (M.2.2 v0 2) = 1) <|
    rhck (Γ.2.2.1 (M.2.2 (M.2.2 v0 2) 2) = 15) <|
    rhck (0 ≤ (v1).toInt ∧ (v1).toInt < (Γ.2.2.2 (M.2.2 (M.2.2 v0 2) 2) : Nat)) <|
    (f_X5_leadsAhead Γ M v0 v2 (M.1 (M.2.2 (M.2.2 v0 2) 2) v1.toNatClampNeg)).bind fun r9 =>
    rhck (r9 = 0 ∨ r9 = 1) <|
    some r9)
  else
    if v3 < (M.1 (M.2.2 (M.2.2 v0 3) 1) v1.toNatClampNeg) then
      (some 1)
    else
      some 0
set_option maxHeartbeats 4000000 in
set_option maxRecDepth 100000 in
theorem b_X5_isBetter {E : rhE} {Γ : rhG} {M : rhM} : ∀ (v0 : Nat) (v1 : Int32) (v2 : Int32) (v3 : Int32), rhF E 6 4 yX5_isBetter cX5_isBetter (some .boolean) Γ (rhe0I Γ M) (f_X5_isBetter Γ M v0 v1 v2 v3) 0 [(0, rhR v0), (1, rhI v1), (2, rhI v2), (3, rhI v3)] [] Γ M := by
  intro v0 v1 v2 v3
  rw [f_X5_isBetter]
  refine rhF.iload_n (pc := 0) dX5_isBetter_0 3 rfl ?_
  refine rhF.aload_n (pc := 1) dX5_isBetter_1 0 rfl ?_
  refine rhF.ck (fun h1 => ?_)
  refine rhF.get (pc := 2) (rhR _) dX5_isBetter_2 fl_X5_39 h1 rfl ?_
  refine rhF.ck (fun h2 => ?_)
  refine rhF.get (pc := 5) (rhR _) dX5_isBetter_5 fl_X5_81 h2 rfl ?_
  refine rhF.iload_n (pc := 8) dX5_isBetter_8 1 rfl ?_
  refine rhF.ck (fun h3 => ?_)
  refine rhF.ck (fun h4 => ?_)
  refine rhF.iald (pc := 9) dX5_isBetter_9 h3 h4 ?_
  refine rhF.icmp_eq (pc := 10) 32 dX5_isBetter_10 (by decide) (fun h5 => ?_) (fun h5 => ?_)
  · refine rhF.aload_n (pc := 32) dX5_isBetter_32 0 rfl ?_
    refine rhF.iload_n (pc := 33) dX5_isBetter_33 2 rfl ?_
    refine rhF.aload_n (pc := 34) dX5_isBetter_34 0 rfl ?_
    refine rhF.get (pc := 35) (rhR _) dX5_isBetter_35 fl_X5_32 h1 rfl ?_
    refine rhF.ck (fun h6 => ?_)
    refine rhF.get (pc := 38) (rhR _) dX5_isBetter_38 fl_X5_202 h6 rfl ?_
    refine rhF.iload_n (pc := 41) dX5_isBetter_41 1 rfl ?_
    refine rhF.ck (fun h7 => ?_)
    refine rhF.ck (fun h8 => ?_)
    refine rhF.iald (pc := 42) dX5_isBetter_42 h7 h8 ?_
    refine rhF.callV (pc := 43) (ci := 5) (embc := rhe0I _ _) [rhI _, rhI _] dX5_isBetter_43 ml_X5_181 mv_X5_leadsAhead ⟨_, rfl, rfl⟩ h1 (c_X5_leadsAhead _ _ _ _ _ _) (by decide) (by decide) rfl (Nat.le_of_ble_eq_true rfl) (fun r9 _ => ?_)
    refine rhF.ck (fun h10 => ?_)
    exact rhF.zret (pc := 46) dX5_isBetter_46 rfl (rhzb h10) rfl
  · refine rhF.iload_n (pc := 13) dX5_isBetter_13 3 rfl ?_
    refine rhF.aload_n (pc := 14) dX5_isBetter_14 0 rfl ?_
    refine rhF.get (pc := 15) (rhR _) dX5_isBetter_15 fl_X5_39 h1 rfl ?_
    refine rhF.get (pc := 18) (rhR _) dX5_isBetter_18 fl_X5_81 h2 rfl ?_
    refine rhF.iload_n (pc := 21) dX5_isBetter_21 1 rfl ?_
    refine rhF.iald (pc := 22) dX5_isBetter_22 h3 h4 ?_
    refine rhF.icmp_ge (pc := 23) 30 dX5_isBetter_23 (by decide) (fun h11 => ?_) (fun h11 => ?_)
    · refine rhF.iconst (pc := 26) (v := 1) dX5_isBetter_26 (by decide) ?_
      refine rhF.goto (pc := 27) 31 dX5_isBetter_27 (by decide) ?_
      exact rhF.zret (pc := 31) dX5_isBetter_31 rfl rfl rfl
    · refine rhF.iconst (pc := 30) (v := 0) dX5_isBetter_30 (by decide) ?_
      exact rhF.zret (pc := 31) dX5_isBetter_31 rfl rfl rfl
theorem c_X5_isBetter (E : rhE) (Γ : rhG) (M : rhM) (v0 : Nat) (v1 : Int32) (v2 : Int32) (v3 : Int32) : ∀ a, f_X5_isBetter Γ M v0 v1 v2 v3 = some a → rhC E 6 yX5_isBetter cX5_isBetter 4 (some .boolean) [rhR v0, rhI v1, rhI v2, rhI v3] Γ M ((rhe0I Γ M) a) := rhF.met (by decide +kernel) (Nat.le_of_ble_eq_true rfl) (b_X5_isBetter v0 v1 v2 v3)
def f_X5_pullsTo (Γ : rhG) (M : rhM) (v0 : Nat) (v1 : Int32) : Option (Int32) :=
  rhck (Γ.2.2.1 v0 = 6) <|
  rhck (Γ.2.2.1 (M.2.2 v0 2) = 1) <|
  rhck (Γ.2.2.1 (M.2.2 (M.2.2 v0 2) 4) = 15) <|
  rhck (0 ≤ (v1).toInt ∧ (v1).toInt < (Γ.2.2.2 (M.2.2 (M.2.2 v0 2) 4) : Nat)) <|
  some (M.1 (M.2.2 (M.2.2 v0 2) 4) v1.toNatClampNeg)
set_option maxHeartbeats 4000000 in
set_option maxRecDepth 100000 in
theorem b_X5_pullsTo {E : rhE} {Γ : rhG} {M : rhM} : ∀ (v0 : Nat) (v1 : Int32), rhF E 1 2 yX5_pullsTo cX5_pullsTo (some .int) Γ (rhe0I Γ M) (f_X5_pullsTo Γ M v0 v1) 0 [(0, rhR v0), (1, rhI v1)] [] Γ M := by
  intro v0 v1
  rw [f_X5_pullsTo]
  refine rhF.aload_n (pc := 0) dX5_pullsTo_0 0 rfl ?_
  refine rhF.ck (fun h1 => ?_)
  refine rhF.get (pc := 1) (rhR _) dX5_pullsTo_1 fl_X5_32 h1 rfl ?_
  refine rhF.ck (fun h2 => ?_)
  refine rhF.get (pc := 4) (rhR _) dX5_pullsTo_4 fl_X5_77 h2 rfl ?_
  refine rhF.iload_n (pc := 7) dX5_pullsTo_7 1 rfl ?_
  refine rhF.ck (fun h3 => ?_)
  refine rhF.ck (fun h4 => ?_)
  refine rhF.iald (pc := 8) dX5_pullsTo_8 h3 h4 ?_
  exact rhF.zret (pc := 9) dX5_pullsTo_9 rfl rfl rfl
theorem c_X5_pullsTo (E : rhE) (Γ : rhG) (M : rhM) (v0 : Nat) (v1 : Int32) : ∀ a, f_X5_pullsTo Γ M v0 v1 = some a → rhC E 1 yX5_pullsTo cX5_pullsTo 2 (some .int) [rhR v0, rhI v1] Γ M ((rhe0I Γ M) a) := rhF.met (by decide +kernel) (Nat.le_of_ble_eq_true rfl) (b_X5_pullsTo v0 v1)
def f_X5_seekAlone (Γ : rhG) (M : rhM) (v0 : Nat) (v1 : Int32) : Option (rhM) :=
  rhck (Γ.2.2.1 v0 = 6) <|
  let M2 := rhsi M v0 7 1
  let M3 := rhsi M2 v0 10 v1
  some M3
set_option maxHeartbeats 4000000 in
set_option maxRecDepth 100000 in
theorem b_X5_seekAlone {E : rhE} {Γ : rhG} : ∀ (M : rhM) (v0 : Nat) (v1 : Int32), rhF E 1 2 yX5_seekAlone cX5_seekAlone none Γ (rhe1U Γ) (f_X5_seekAlone Γ M v0 v1) 0 [(0, rhR v0), (1, rhI v1)] [] Γ M := by
  intro M v0 v1
  rw [f_X5_seekAlone]
  refine rhF.aload_n (pc := 0) dX5_seekAlone_0 0 rfl ?_
  refine rhF.iconst (pc := 1) (v := 1) dX5_seekAlone_1 (by decide) ?_
  refine rhF.ck (fun h1 => ?_)
  refine rhF.puti (pc := 2) dX5_seekAlone_2 fl_X5_60 h1 (fun q hq => by cases hq; exact Or.inl rfl) ⟨rfl, rfl⟩ (fun _ => rfl) ?_
  refine rhF.aload_n (pc := 5) dX5_seekAlone_5 0 rfl ?_
  refine rhF.iload_n (pc := 6) dX5_seekAlone_6 1 rfl ?_
  refine rhF.puti (pc := 7) dX5_seekAlone_7 fl_X5_74 h1 (fun q hq => by cases hq; exact Or.inl rfl) ⟨rfl, rfl⟩ (fun _ => rfl) ?_
  exact rhF.vret (pc := 10) dX5_seekAlone_10 rfl rfl
theorem c_X5_seekAlone (E : rhE) (Γ : rhG) (M : rhM) (v0 : Nat) (v1 : Int32) : ∀ a, f_X5_seekAlone Γ M v0 v1 = some a → rhC E 1 yX5_seekAlone cX5_seekAlone 2 none [rhR v0, rhI v1] Γ M ((rhe1U Γ) a) := rhF.met (by decide +kernel) (Nat.le_of_ble_eq_true rfl) (b_X5_seekAlone M v0 v1)
def f_X5_seekRow (Γ : rhG) (M : rhM) (v0 : Nat) (v1 : Int64) (v3 : Int32) : Option (rhM) :=
  rhck (Γ.2.2.1 v0 = 6) <|
  let M2 := rhsi M v0 7 0
  let M3 := rhsl M2 v0 8 v1
  (f_X7_ones Γ M3 v3).bind fun r4 =>
  let M5 := rhsl M3 v0 9 r4
  some M5
set_option maxHeartbeats 4000000 in
set_option maxRecDepth 100000 in
theorem b_X5_seekRow {E : rhE} {Γ : rhG} : ∀ (M : rhM) (v0 : Nat) (v1 : Int64) (v3 : Int32), rhF E 5 4 yX5_seekRow cX5_seekRow none Γ (rhe1U Γ) (f_X5_seekRow Γ M v0 v1 v3) 0 [(0, rhR v0), (1, rhJ v1), (3, rhI v3)] [] Γ M := by
  intro M v0 v1 v3
  rw [f_X5_seekRow]
  refine rhF.aload_n (pc := 0) dX5_seekRow_0 0 rfl ?_
  refine rhF.iconst (pc := 1) (v := 0) dX5_seekRow_1 (by decide) ?_
  refine rhF.ck (fun h1 => ?_)
  refine rhF.puti (pc := 2) dX5_seekRow_2 fl_X5_60 h1 (fun q hq => by cases hq; exact Or.inl rfl) ⟨rfl, rfl⟩ (fun _ => rfl) ?_
  refine rhF.aload_n (pc := 5) dX5_seekRow_5 0 rfl ?_
  refine rhF.lload_n (pc := 6) dX5_seekRow_6 1 rfl ?_
  refine rhF.putl (pc := 7) dX5_seekRow_7 fl_X5_63 h1 (fun q hq => by cases hq; exact Or.inl rfl) ⟨rfl, rfl⟩ (fun _ => rfl) ?_
  refine rhF.aload_n (pc := 10) dX5_seekRow_10 0 rfl ?_
  refine rhF.iload_n (pc := 11) dX5_seekRow_11 2 rfl ?_
  refine rhF.callS (pc := 12) (embc := rhe0J _ _) [rhI _] dX5_seekRow_12 ml_X5_67 ms_X7_ones (c_X7_ones _ _ _ _) (by decide) (by decide) rfl (Nat.le_of_ble_eq_true rfl) (fun r4 _ => ?_)
  refine rhF.putl (pc := 15) dX5_seekRow_15 fl_X5_71 h1 (fun q hq => by cases hq; exact Or.inl rfl) ⟨rfl, rfl⟩ (fun _ => rfl) ?_
  exact rhF.vret (pc := 18) dX5_seekRow_18 rfl rfl
theorem c_X5_seekRow (E : rhE) (Γ : rhG) (M : rhM) (v0 : Nat) (v1 : Int64) (v3 : Int32) : ∀ a, f_X5_seekRow Γ M v0 v1 v3 = some a → rhC E 5 yX5_seekRow cX5_seekRow 4 none [rhR v0, rhJ v1, rhI v3] Γ M ((rhe1U Γ) a) := rhF.met (by decide +kernel) (Nat.le_of_ble_eq_true rfl) (b_X5_seekRow M v0 v1 v3)
def f_X5_seekWorth (Γ : rhG) (M : rhM) (v0 : Nat) : Option (rhM) :=
  rhck (Γ.2.2.1 v0 = 6) <|
  let M2 := rhsi M v0 7 2
  some M2
set_option maxHeartbeats 4000000 in
set_option maxRecDepth 100000 in
theorem b_X5_seekWorth {E : rhE} {Γ : rhG} : ∀ (M : rhM) (v0 : Nat), rhF E 1 1 yX5_seekWorth cX5_seekWorth none Γ (rhe1U Γ) (f_X5_seekWorth Γ M v0) 0 [(0, rhR v0)] [] Γ M := by
  intro M v0
  rw [f_X5_seekWorth]
  refine rhF.aload_n (pc := 0) dX5_seekWorth_0 0 rfl ?_
  refine rhF.iconst (pc := 1) (v := 2) dX5_seekWorth_1 (by decide) ?_
  refine rhF.ck (fun h1 => ?_)
  refine rhF.puti (pc := 2) dX5_seekWorth_2 fl_X5_60 h1 (fun q hq => by cases hq; exact Or.inl rfl) ⟨rfl, rfl⟩ (fun _ => rfl) ?_
  exact rhF.vret (pc := 5) dX5_seekWorth_5 rfl rfl
theorem c_X5_seekWorth (E : rhE) (Γ : rhG) (M : rhM) (v0 : Nat) : ∀ a, f_X5_seekWorth Γ M v0 = some a → rhC E 1 yX5_seekWorth cX5_seekWorth 1 none [rhR v0] Γ M ((rhe1U Γ) a) := rhF.met (by decide +kernel) (Nat.le_of_ble_eq_true rfl) (b_X5_seekWorth M v0)
def f_X5_spread_29 (Γ : rhG) : Nat → rhM → Nat → Int32 → Int32 → Option (Int32 × rhM)
  | 0, _, _, _, _ => none
  | n + 1, M, v0, v4, v6 =>
    rhck (Γ.2.2.1 v0 = 6) <|
    rhck (Γ.2.2.1 (M.2.2 v0 2) = 1) <|
    if v6 < (M.1 (M.2.2 v0 2) 0) then
      (rhck (Γ.2.2.1 (M.2.2 (M.2.2 v0 2) 4) = 15) <|
      rhck (0 ≤ (v6).toInt ∧ (v6).toInt < (Γ.2.2.2 (M.2.2 (M.2.2 v0 2) 4) : Nat)) <|
      if (M.1 (M.2.2 (M.2.2 v0 2) 4) v6.toNatClampNeg) < v4 then
        ((f_X5_goOn Γ M v0 v6).bind fun r13 =>
        let x14 := r13.1
        if x14 = ((-1)) then
          (let x16 : Int32 := v6 + 1
          f_X5_spread_29 Γ n r13.2 v0 v4 x16)
        else
          some ((x14, r13.2)))
      else
        some ((M.1 v0 11, M)))
    else
      some ((M.1 v0 11, M))
def f_X5_spread (Γ : rhG) (M : rhM) (v0 : Nat) (v1 : Nat) (v2 : Int64) (v4 : Int32) : Option (Int32 × rhM) :=
  rhck (Γ.2.2.1 v0 = 6) <|
  (f_X5_begin Γ M v0 v1 v2).bind fun r2 =>
  let x3 := r2.1
  if x3 = ((-1)) then
    (some ((x3, r2.2)))
  else
    (f_X5_isMet Γ r2.2 v0 x3).bind fun r5 =>
    if r5.1 = 0 then
      (f_X5_spread_29 Γ rhFU r5.2 v0 v4 0)
    else
      some ((x3, r5.2))
set_option maxHeartbeats 4000000 in
set_option maxRecDepth 100000 in
theorem b_X5_spread_29 {E : rhE} {Γ : rhG} : ∀ (n : Nat) (M : rhM) (v0 : Nat) (v4 : Int32) (v6 : Int32), rhF E 10 8 yX5_spread cX5_spread (some .int) Γ (rhe1I Γ) (f_X5_spread_29 Γ n M v0 v4 v6) 29 [(0, rhR v0), (4, rhI v4), (6, rhI v6)] [] Γ M := by
  intro n
  induction n with
  | zero => intro M v0 v4 v6; rw [f_X5_spread_29]; exact rhF.nope
  | succ n ih =>
    intro M v0 v4 v6
    rw [f_X5_spread_29]
    refine rhF.iload (pc := 29) dX5_spread_29 2 rfl ?_
    refine rhF.aload_n (pc := 31) dX5_spread_31 0 rfl ?_
    refine rhF.ck (fun h7 => ?_)
    refine rhF.get (pc := 32) (rhR _) dX5_spread_32 fl_X5_32 h7 rfl ?_
    refine rhF.ck (fun h8 => ?_)
    refine rhF.get (pc := 35) (rhI _) dX5_spread_35 fl_X5_119 h8 rfl ?_
    refine rhF.icmp_ge (pc := 38) 79 dX5_spread_38 (by decide) (fun h9 => ?_) (fun h9 => ?_)
    · refine rhF.aload_n (pc := 41) dX5_spread_41 0 rfl ?_
      refine rhF.get (pc := 42) (rhR _) dX5_spread_42 fl_X5_32 h7 rfl ?_
      refine rhF.get (pc := 45) (rhR _) dX5_spread_45 fl_X5_77 h8 rfl ?_
      refine rhF.iload (pc := 48) dX5_spread_48 2 rfl ?_
      refine rhF.ck (fun h10 => ?_)
      refine rhF.ck (fun h11 => ?_)
      refine rhF.iald (pc := 50) dX5_spread_50 h10 h11 ?_
      refine rhF.iload (pc := 51) dX5_spread_51 1 rfl ?_
      refine rhF.icmp_ge (pc := 53) 79 dX5_spread_53 (by decide) (fun h12 => ?_) (fun h12 => ?_)
      · refine rhF.aload_n (pc := 56) dX5_spread_56 0 rfl ?_
        refine rhF.iload (pc := 57) dX5_spread_57 2 rfl ?_
        refine rhF.callV (pc := 59) (ci := 5) (embc := rhe1I _) [rhI _] dX5_spread_59 ml_X5_122 mv_X5_goOn ⟨_, rfl, rfl⟩ h7 (c_X5_goOn _ _ _ _ _) (by decide) (by decide) rfl (Nat.le_of_ble_eq_true rfl) (fun r13 _ => ?_)
        refine rhF.istore (pc := 62) (L' := [(7, rhI _), (0, rhR _), (4, rhI _), (6, rhI _)]) dX5_spread_62 (by decide) rfl ?_
        refine rhF.iload (pc := 64) dX5_spread_64 0 rfl ?_
        refine rhF.iconst (pc := 66) (v := (-1)) dX5_spread_66 (by decide) ?_
        refine rhF.icmp_eq (pc := 67) 73 dX5_spread_67 (by decide) (fun h15 => ?_) (fun h15 => ?_)
        · refine rhF.iinc (pc := 73) (L' := [(6, rhI _), (7, rhI _), (0, rhR _), (4, rhI _)]) dX5_spread_73 3 rfl rfl (by decide) rfl ?_
          refine rhF.goto (pc := 76) 29 dX5_spread_76 (by decide) ?_
          refine rhF.sub [2, 3, 0] rfl ?_
          exact ih _ _ _ _
        · refine rhF.iload (pc := 70) dX5_spread_70 0 rfl ?_
          exact rhF.zret (pc := 72) dX5_spread_72 rfl rfl rfl
      · refine rhF.aload_n (pc := 79) dX5_spread_79 0 rfl ?_
        refine rhF.get (pc := 80) (rhI _) dX5_spread_80 fl_X5_92 h7 rfl ?_
        exact rhF.zret (pc := 83) dX5_spread_83 rfl rfl rfl
    · refine rhF.aload_n (pc := 79) dX5_spread_79 0 rfl ?_
      refine rhF.get (pc := 80) (rhI _) dX5_spread_80 fl_X5_92 h7 rfl ?_
      exact rhF.zret (pc := 83) dX5_spread_83 rfl rfl rfl
set_option maxHeartbeats 4000000 in
set_option maxRecDepth 100000 in
theorem b_X5_spread {E : rhE} {Γ : rhG} : ∀ (M : rhM) (v0 : Nat) (v1 : Nat) (v2 : Int64) (v4 : Int32), rhF E 10 8 yX5_spread cX5_spread (some .int) Γ (rhe1I Γ) (f_X5_spread Γ M v0 v1 v2 v4) 0 [(0, rhR v0), (1, rhR v1), (2, rhJ v2), (4, rhI v4)] [] Γ M := by
  intro M v0 v1 v2 v4
  rw [f_X5_spread]
  refine rhF.aload_n (pc := 0) dX5_spread_0 0 rfl ?_
  refine rhF.aload_n (pc := 1) dX5_spread_1 1 rfl ?_
  refine rhF.lload_n (pc := 2) dX5_spread_2 2 rfl ?_
  refine rhF.ck (fun h1 => ?_)
  refine rhF.callV (pc := 3) (ci := 5) (embc := rhe1I _) [rhR _, rhJ _] dX5_spread_3 ml_X5_112 mv_X5_begin ⟨_, rfl, rfl⟩ h1 (c_X5_begin _ _ _ _ _ _) (by decide) (by decide) rfl (Nat.le_of_ble_eq_true rfl) (fun r2 _ => ?_)
  refine rhF.istore (pc := 6) (L' := [(5, rhI _), (0, rhR _), (1, rhR _), (2, rhJ _), (4, rhI _)]) dX5_spread_6 (by decide) rfl ?_
  refine rhF.iload (pc := 8) dX5_spread_8 0 rfl ?_
  refine rhF.iconst (pc := 10) (v := (-1)) dX5_spread_10 (by decide) ?_
  refine rhF.icmp_eq (pc := 11) 23 dX5_spread_11 (by decide) (fun h4 => ?_) (fun h4 => ?_)
  · refine rhF.iload (pc := 23) dX5_spread_23 0 rfl ?_
    exact rhF.zret (pc := 25) dX5_spread_25 rfl rfl rfl
  · refine rhF.aload_n (pc := 14) dX5_spread_14 1 rfl ?_
    refine rhF.iload (pc := 15) dX5_spread_15 0 rfl ?_
    refine rhF.callV (pc := 17) (ci := 5) (embc := rhe1I _) [rhI _] dX5_spread_17 ml_X5_115 mv_X5_isMet ⟨_, rfl, rfl⟩ h1 (c_X5_isMet _ _ _ _ _) (by decide) (by decide) rfl (Nat.le_of_ble_eq_true rfl) (fun r5 _ => ?_)
    refine rhF.if_eq (pc := 20) 26 dX5_spread_20 (by decide) (fun h6 => ?_) (fun h6 => ?_)
    · refine rhF.iconst (pc := 26) (v := 0) dX5_spread_26 (by decide) ?_
      refine rhF.istore (pc := 27) (L' := [(6, rhI _), (5, rhI _), (0, rhR _), (1, rhR _), (2, rhJ _), (4, rhI _)]) dX5_spread_27 (by decide) rfl ?_
      refine rhF.sub [2, 5, 0] rfl ?_
      exact (b_X5_spread_29 rhFU) _ _ _ _
    · refine rhF.iload (pc := 23) dX5_spread_23 0 rfl ?_
      exact rhF.zret (pc := 25) dX5_spread_25 rfl rfl rfl
theorem c_X5_spread (E : rhE) (Γ : rhG) (M : rhM) (v0 : Nat) (v1 : Nat) (v2 : Int64) (v4 : Int32) : ∀ a, f_X5_spread Γ M v0 v1 v2 v4 = some a → rhC E 10 yX5_spread cX5_spread 8 (some .int) [rhR v0, rhR v1, rhJ v2, rhI v4] Γ M ((rhe1I Γ) a) := rhF.met (by decide +kernel) (Nat.le_of_ble_eq_true rfl) (b_X5_spread M v0 v1 v2 v4)
def f_X10_begin (Γ : rhG) (M : rhM) (v0 : Nat) : Option (rhM) :=
  rhck (Γ.2.2.1 v0 = 11) <|
  let M2 := rhsi M v0 0 0
  (f_J7_fill_53178 Γ M2 (M.2.2 v0 4) ((-1) : Int32)).bind fun r3 =>
  some r3
set_option maxHeartbeats 4000000 in
set_option maxRecDepth 100000 in
theorem b_X10_begin {E : rhE} {Γ : rhG} : ∀ (M : rhM) (v0 : Nat), rhF E 5 1 yX10_begin cX10_begin none Γ (rhe1U Γ) (f_X10_begin Γ M v0) 0 [(0, rhR v0)] [] Γ M := by
  intro M v0
  rw [f_X10_begin]
  refine rhF.aload_n (pc := 0) dX10_begin_0 0 rfl ?_
  refine rhF.iconst (pc := 1) (v := 0) dX10_begin_1 (by decide) ?_
  refine rhF.ck (fun h1 => ?_)
  refine rhF.puti (pc := 2) dX10_begin_2 fl_X10_24 h1 (fun q hq => by cases hq; exact Or.inl rfl) ⟨rfl, rfl⟩ (fun _ => rfl) ?_
  refine rhF.aload_n (pc := 5) dX10_begin_5 0 rfl ?_
  refine rhF.get (pc := 6) (rhR _) dX10_begin_6 fl_X10_11 h1 rfl ?_
  refine rhF.iconst (pc := 9) (v := (-1)) dX10_begin_9 (by decide) ?_
  refine rhF.callS (pc := 10) (embc := rhe1U _) [rhR _, rhI _] dX10_begin_10 ml_X10_28 ms_J7_fill_53178 (c_J7_fill_53178 _ _ _ _ _) (by decide) (by decide) rfl (Nat.le_of_ble_eq_true rfl) (fun r3 _ => ?_)
  exact rhF.vret (pc := 13) dX10_begin_13 rfl rfl
theorem c_X10_begin (E : rhE) (Γ : rhG) (M : rhM) (v0 : Nat) : ∀ a, f_X10_begin Γ M v0 = some a → rhC E 5 yX10_begin cX10_begin 1 none [rhR v0] Γ M ((rhe1U Γ) a) := rhF.met (by decide +kernel) (Nat.le_of_ble_eq_true rfl) (b_X10_begin M v0)
def f_X10_drop_57 (Γ : rhG) (M : rhM) (v0 : Nat) : Option (rhM) :=
  rhck (Γ.2.2.1 v0 = 11) <|
  let M16 := rhsi M v0 0 ((M.1 v0 0) - 1)
  some M16
def f_X10_drop_45 (Γ : rhG) (M : rhM) (v0 : Nat) (v2 : Int32) (v3 : Int32) : Option (rhM) :=
  if v3 = ((-1)) then
    (f_X10_drop_57 Γ M v0)
  else
    rhck (Γ.2.2.1 v0 = 11) <|
    rhck (Γ.2.2.1 (M.2.2 v0 3) = 15) <|
    rhck (0 ≤ (v3).toInt ∧ (v3).toInt < (Γ.2.2.2 (M.2.2 v0 3) : Nat)) <|
    let M20 := rhsi M (M.2.2 v0 3) (v3 : Int32).toNatClampNeg v2
    f_X10_drop_57 Γ M20 v0
def f_X10_drop (Γ : rhG) (M : rhM) (v0 : Nat) (v1 : Int32) : Option (rhM) :=
  rhck (Γ.2.2.1 v0 = 11) <|
  rhck (Γ.2.2.1 (M.2.2 v0 3) = 15) <|
  rhck (0 ≤ (v1).toInt ∧ (v1).toInt < (Γ.2.2.2 (M.2.2 v0 3) : Nat)) <|
  let x4 := M.1 (M.2.2 v0 3) v1.toNatClampNeg
  rhck (Γ.2.2.1 (M.2.2 v0 2) = 15) <|
  rhck (0 ≤ (v1).toInt ∧ (v1).toInt < (Γ.2.2.2 (M.2.2 v0 2) : Nat)) <|
  let x7 := M.1 (M.2.2 v0 2) v1.toNatClampNeg
  if x4 = ((-1)) then
    (rhck (Γ.2.2.1 (M.2.2 v0 1) = 15) <|
    rhck (0 ≤ (v1).toInt ∧ (v1).toInt < (Γ.2.2.2 (M.2.2 v0 1) : Nat)) <|
    rhck (Γ.2.2.1 (M.2.2 v0 4) = 15) <|
    rhck (0 ≤ ((M.1 (M.2.2 v0 1) v1.toNatClampNeg) &&& 1023).toInt ∧ ((M.1 (M.2.2 v0 1) v1.toNatClampNeg) &&& 1023).toInt < (Γ.2.2.2 (M.2.2 v0 4) : Nat)) <|
    let M13 := rhsi M (M.2.2 v0 4) ((M.1 (M.2.2 v0 1) v1.toNatClampNeg) &&& 1023 : Int32).toNatClampNeg x7
    f_X10_drop_45 Γ M13 v0 x4 x7)
  else
    rhck (0 ≤ (x4).toInt ∧ (x4).toInt < (Γ.2.2.2 (M.2.2 v0 2) : Nat)) <|
    let M22 := rhsi M (M.2.2 v0 2) (x4 : Int32).toNatClampNeg x7
    f_X10_drop_45 Γ M22 v0 x4 x7
set_option maxHeartbeats 4000000 in
set_option maxRecDepth 100000 in
theorem b_X10_drop_57 {E : rhE} {Γ : rhG} : ∀ (M : rhM) (v0 : Nat), rhF E 1 4 yX10_drop cX10_drop none Γ (rhe1U Γ) (f_X10_drop_57 Γ M v0) 57 [(0, rhR v0)] [] Γ M := by
  intro M v0
  rw [f_X10_drop_57]
  refine rhF.aload_n (pc := 57) dX10_drop_57 0 rfl ?_
  refine rhF.dupr (pc := 58) dX10_drop_58 ?_
  refine rhF.ck (fun h15 => ?_)
  refine rhF.get (pc := 59) (rhI _) dX10_drop_59 fl_X10_24 h15 rfl ?_
  refine rhF.iconst (pc := 62) (v := 1) dX10_drop_62 (by decide) ?_
  refine rhF.isub (pc := 63) dX10_drop_63 ?_
  refine rhF.puti (pc := 64) dX10_drop_64 fl_X10_24 h15 (fun q hq => by cases hq; exact Or.inl rfl) ⟨rfl, rfl⟩ (fun _ => rfl) ?_
  exact rhF.vret (pc := 67) dX10_drop_67 rfl rfl
set_option maxHeartbeats 4000000 in
set_option maxRecDepth 100000 in
theorem b_X10_drop_45 {E : rhE} {Γ : rhG} : ∀ (M : rhM) (v0 : Nat) (v2 : Int32) (v3 : Int32), rhF E 1 4 yX10_drop cX10_drop none Γ (rhe1U Γ) (f_X10_drop_45 Γ M v0 v2 v3) 45 [(0, rhR v0), (2, rhI v2), (3, rhI v3)] [] Γ M := by
  intro M v0 v2 v3
  rw [f_X10_drop_45]
  refine rhF.iload_n (pc := 45) dX10_drop_45 2 rfl ?_
  refine rhF.iconst (pc := 46) (v := (-1)) dX10_drop_46 (by decide) ?_
  refine rhF.icmp_eq (pc := 47) 57 dX10_drop_47 (by decide) (fun h14 => ?_) (fun h14 => ?_)
  · refine rhF.sub [0] rfl ?_
    exact (b_X10_drop_57) _ _
  · refine rhF.aload_n (pc := 50) dX10_drop_50 0 rfl ?_
    refine rhF.ck (fun h17 => ?_)
    refine rhF.get (pc := 51) (rhR _) dX10_drop_51 fl_X10_21 h17 rfl ?_
    refine rhF.iload_n (pc := 54) dX10_drop_54 2 rfl ?_
    refine rhF.iload_n (pc := 55) dX10_drop_55 1 rfl ?_
    refine rhF.ck (fun h18 => ?_)
    refine rhF.ck (fun h19 => ?_)
    refine rhF.iast (pc := 56) dX10_drop_56 h18 h19 ?_
    refine rhF.sub [0] rfl ?_
    exact (b_X10_drop_57) _ _
set_option maxHeartbeats 4000000 in
set_option maxRecDepth 100000 in
theorem b_X10_drop {E : rhE} {Γ : rhG} : ∀ (M : rhM) (v0 : Nat) (v1 : Int32), rhF E 1 4 yX10_drop cX10_drop none Γ (rhe1U Γ) (f_X10_drop Γ M v0 v1) 0 [(0, rhR v0), (1, rhI v1)] [] Γ M := by
  intro M v0 v1
  rw [f_X10_drop]
  refine rhF.aload_n (pc := 0) dX10_drop_0 0 rfl ?_
  refine rhF.ck (fun h1 => ?_)
  refine rhF.get (pc := 1) (rhR _) dX10_drop_1 fl_X10_21 h1 rfl ?_
  refine rhF.iload_n (pc := 4) dX10_drop_4 1 rfl ?_
  refine rhF.ck (fun h2 => ?_)
  refine rhF.ck (fun h3 => ?_)
  refine rhF.iald (pc := 5) dX10_drop_5 h2 h3 ?_
  refine rhF.istore_n (pc := 6) (L' := [(2, rhI _), (0, rhR _), (1, rhI _)]) dX10_drop_6 (by decide) rfl ?_
  refine rhF.aload_n (pc := 7) dX10_drop_7 1 rfl ?_
  refine rhF.get (pc := 8) (rhR _) dX10_drop_8 fl_X10_18 h1 rfl ?_
  refine rhF.iload_n (pc := 11) dX10_drop_11 2 rfl ?_
  refine rhF.ck (fun h5 => ?_)
  refine rhF.ck (fun h6 => ?_)
  refine rhF.iald (pc := 12) dX10_drop_12 h5 h6 ?_
  refine rhF.istore_n (pc := 13) (L' := [(3, rhI _), (2, rhI _), (0, rhR _), (1, rhI _)]) dX10_drop_13 (by decide) rfl ?_
  refine rhF.iload_n (pc := 14) dX10_drop_14 1 rfl ?_
  refine rhF.iconst (pc := 15) (v := (-1)) dX10_drop_15 (by decide) ?_
  refine rhF.icmp_ne (pc := 16) 38 dX10_drop_16 (by decide) (fun h8 => ?_) (fun h8 => ?_)
  · refine rhF.aload_n (pc := 19) dX10_drop_19 2 rfl ?_
    refine rhF.get (pc := 20) (rhR _) dX10_drop_20 fl_X10_11 h1 rfl ?_
    refine rhF.aload_n (pc := 23) dX10_drop_23 2 rfl ?_
    refine rhF.get (pc := 24) (rhR _) dX10_drop_24 fl_X10_15 h1 rfl ?_
    refine rhF.iload_n (pc := 27) dX10_drop_27 3 rfl ?_
    refine rhF.ck (fun h9 => ?_)
    refine rhF.ck (fun h10 => ?_)
    refine rhF.iald (pc := 28) dX10_drop_28 h9 h10 ?_
    refine rhF.sipush (pc := 29) (v := 1023) dX10_drop_29 (by decide) ?_
    refine rhF.iand (pc := 32) dX10_drop_32 ?_
    refine rhF.iload_n (pc := 33) dX10_drop_33 0 rfl ?_
    refine rhF.ck (fun h11 => ?_)
    refine rhF.ck (fun h12 => ?_)
    refine rhF.iast (pc := 34) dX10_drop_34 h11 h12 ?_
    refine rhF.goto (pc := 35) 45 dX10_drop_35 (by decide) ?_
    refine rhF.sub [2, 1, 0] rfl ?_
    exact (b_X10_drop_45) _ _ _ _
  · refine rhF.aload_n (pc := 38) dX10_drop_38 2 rfl ?_
    refine rhF.get (pc := 39) (rhR _) dX10_drop_39 fl_X10_18 h1 rfl ?_
    refine rhF.iload_n (pc := 42) dX10_drop_42 1 rfl ?_
    refine rhF.iload_n (pc := 43) dX10_drop_43 0 rfl ?_
    refine rhF.ck (fun h21 => ?_)
    refine rhF.iast (pc := 44) dX10_drop_44 h5 h21 ?_
    refine rhF.sub [2, 1, 0] rfl ?_
    exact (b_X10_drop_45) _ _ _ _
theorem c_X10_drop (E : rhE) (Γ : rhG) (M : rhM) (v0 : Nat) (v1 : Int32) : ∀ a, f_X10_drop Γ M v0 v1 = some a → rhC E 1 yX10_drop cX10_drop 4 none [rhR v0, rhI v1] Γ M ((rhe1U Γ) a) := rhF.met (by decide +kernel) (Nat.le_of_ble_eq_true rfl) (b_X10_drop M v0 v1)
def f_X10_put_54 (Γ : rhG) (M : rhM) (v0 : Nat) (v1 : Int32) (v3 : Int32) : Option (rhM) :=
  rhck (Γ.2.2.1 v0 = 11) <|
  rhck (Γ.2.2.1 (M.2.2 v0 4) = 15) <|
  rhck (0 ≤ (v3).toInt ∧ (v3).toInt < (Γ.2.2.2 (M.2.2 v0 4) : Nat)) <|
  let M18 := rhsi M (M.2.2 v0 4) (v3 : Int32).toNatClampNeg v1
  let M19 := rhsi M18 v0 0 ((M18.1 v0 0) + 1)
  some M19
def f_X10_put (Γ : rhG) (M : rhM) (v0 : Nat) (v1 : Int32) (v2 : Int32) : Option (rhM) :=
  let x1 := v2 &&& 1023
  rhck (Γ.2.2.1 v0 = 11) <|
  rhck (Γ.2.2.1 (M.2.2 v0 1) = 15) <|
  rhck (0 ≤ (v1).toInt ∧ (v1).toInt < (Γ.2.2.2 (M.2.2 v0 1) : Nat)) <|
  let M5 := rhsi M (M.2.2 v0 1) (v1 : Int32).toNatClampNeg v2
  rhck (Γ.2.2.1 (M.2.2 v0 3) = 15) <|
  rhck (0 ≤ (v1).toInt ∧ (v1).toInt < (Γ.2.2.2 (M.2.2 v0 3) : Nat)) <|
  let M8 := rhsi M5 (M.2.2 v0 3) (v1 : Int32).toNatClampNeg ((-1))
  rhck (Γ.2.2.1 (M.2.2 v0 4) = 15) <|
  rhck (0 ≤ (x1).toInt ∧ (x1).toInt < (Γ.2.2.2 (M.2.2 v0 4) : Nat)) <|
  rhck (Γ.2.2.1 (M.2.2 v0 2) = 15) <|
  rhck (0 ≤ (v1).toInt ∧ (v1).toInt < (Γ.2.2.2 (M.2.2 v0 2) : Nat)) <|
  let M13 := rhsi M8 (M.2.2 v0 2) (v1 : Int32).toNatClampNeg (M8.1 (M.2.2 v0 4) x1.toNatClampNeg)
  if (M13.1 (M.2.2 v0 4) x1.toNatClampNeg) = ((-1)) then
    (f_X10_put_54 Γ M13 v0 v1 x1)
  else
    rhck (0 ≤ (M13.1 (M.2.2 v0 4) x1.toNatClampNeg).toInt ∧ (M13.1 (M.2.2 v0 4) x1.toNatClampNeg).toInt < (Γ.2.2.2 (M.2.2 v0 3) : Nat)) <|
    let M21 := rhsi M13 (M.2.2 v0 3) (M13.1 (M.2.2 v0 4) x1.toNatClampNeg : Int32).toNatClampNeg v1
    f_X10_put_54 Γ M21 v0 v1 x1
set_option maxHeartbeats 4000000 in
set_option maxRecDepth 100000 in
theorem b_X10_put_54 {E : rhE} {Γ : rhG} : ∀ (M : rhM) (v0 : Nat) (v1 : Int32) (v3 : Int32), rhF E 1 4 yX10_put cX10_put none Γ (rhe1U Γ) (f_X10_put_54 Γ M v0 v1 v3) 54 [(0, rhR v0), (1, rhI v1), (3, rhI v3)] [] Γ M := by
  intro M v0 v1 v3
  rw [f_X10_put_54]
  refine rhF.aload_n (pc := 54) dX10_put_54 0 rfl ?_
  refine rhF.ck (fun h15 => ?_)
  refine rhF.get (pc := 55) (rhR _) dX10_put_55 fl_X10_11 h15 rfl ?_
  refine rhF.iload_n (pc := 58) dX10_put_58 2 rfl ?_
  refine rhF.iload_n (pc := 59) dX10_put_59 1 rfl ?_
  refine rhF.ck (fun h16 => ?_)
  refine rhF.ck (fun h17 => ?_)
  refine rhF.iast (pc := 60) dX10_put_60 h16 h17 ?_
  refine rhF.aload_n (pc := 61) dX10_put_61 0 rfl ?_
  refine rhF.dupr (pc := 62) dX10_put_62 ?_
  refine rhF.get (pc := 63) (rhI _) dX10_put_63 fl_X10_24 h15 rfl ?_
  refine rhF.iconst (pc := 66) (v := 1) dX10_put_66 (by decide) ?_
  refine rhF.iadd (pc := 67) dX10_put_67 ?_
  refine rhF.puti (pc := 68) dX10_put_68 fl_X10_24 h15 (fun q hq => by cases hq; exact Or.inl rfl) ⟨rfl, rfl⟩ (fun _ => rfl) ?_
  exact rhF.vret (pc := 71) dX10_put_71 rfl rfl
set_option maxHeartbeats 4000000 in
set_option maxRecDepth 100000 in
theorem b_X10_put {E : rhE} {Γ : rhG} : ∀ (M : rhM) (v0 : Nat) (v1 : Int32) (v2 : Int32), rhF E 1 4 yX10_put cX10_put none Γ (rhe1U Γ) (f_X10_put Γ M v0 v1 v2) 0 [(0, rhR v0), (1, rhI v1), (2, rhI v2)] [] Γ M := by
  intro M v0 v1 v2
  rw [f_X10_put]
  refine rhF.iload_n (pc := 0) dX10_put_0 2 rfl ?_
  refine rhF.sipush (pc := 1) (v := 1023) dX10_put_1 (by decide) ?_
  refine rhF.iand (pc := 4) dX10_put_4 ?_
  refine rhF.istore_n (pc := 5) (L' := [(3, rhI _), (0, rhR _), (1, rhI _), (2, rhI _)]) dX10_put_5 (by decide) rfl ?_
  refine rhF.aload_n (pc := 6) dX10_put_6 1 rfl ?_
  refine rhF.ck (fun h2 => ?_)
  refine rhF.get (pc := 7) (rhR _) dX10_put_7 fl_X10_15 h2 rfl ?_
  refine rhF.iload_n (pc := 10) dX10_put_10 2 rfl ?_
  refine rhF.iload_n (pc := 11) dX10_put_11 3 rfl ?_
  refine rhF.ck (fun h3 => ?_)
  refine rhF.ck (fun h4 => ?_)
  refine rhF.iast (pc := 12) dX10_put_12 h3 h4 ?_
  refine rhF.aload_n (pc := 13) dX10_put_13 1 rfl ?_
  refine rhF.get (pc := 14) (rhR _) dX10_put_14 fl_X10_21 h2 rfl ?_
  refine rhF.iload_n (pc := 17) dX10_put_17 2 rfl ?_
  refine rhF.iconst (pc := 18) (v := (-1)) dX10_put_18 (by decide) ?_
  refine rhF.ck (fun h6 => ?_)
  refine rhF.ck (fun h7 => ?_)
  refine rhF.iast (pc := 19) dX10_put_19 h6 h7 ?_
  refine rhF.aload_n (pc := 20) dX10_put_20 1 rfl ?_
  refine rhF.get (pc := 21) (rhR _) dX10_put_21 fl_X10_18 h2 rfl ?_
  refine rhF.iload_n (pc := 24) dX10_put_24 2 rfl ?_
  refine rhF.aload_n (pc := 25) dX10_put_25 1 rfl ?_
  refine rhF.get (pc := 26) (rhR _) dX10_put_26 fl_X10_11 h2 rfl ?_
  refine rhF.iload_n (pc := 29) dX10_put_29 0 rfl ?_
  refine rhF.ck (fun h9 => ?_)
  refine rhF.ck (fun h10 => ?_)
  refine rhF.iald (pc := 30) dX10_put_30 h9 h10 ?_
  refine rhF.ck (fun h11 => ?_)
  refine rhF.ck (fun h12 => ?_)
  refine rhF.iast (pc := 31) dX10_put_31 h11 h12 ?_
  refine rhF.aload_n (pc := 32) dX10_put_32 1 rfl ?_
  refine rhF.get (pc := 33) (rhR _) dX10_put_33 fl_X10_11 h2 rfl ?_
  refine rhF.iload_n (pc := 36) dX10_put_36 0 rfl ?_
  refine rhF.iald (pc := 37) dX10_put_37 h9 h10 ?_
  refine rhF.iconst (pc := 38) (v := (-1)) dX10_put_38 (by decide) ?_
  refine rhF.icmp_eq (pc := 39) 54 dX10_put_39 (by decide) (fun h14 => ?_) (fun h14 => ?_)
  · refine rhF.sub [1, 2, 0] rfl ?_
    exact (b_X10_put_54) _ _ _ _
  · refine rhF.aload_n (pc := 42) dX10_put_42 1 rfl ?_
    refine rhF.get (pc := 43) (rhR _) dX10_put_43 fl_X10_21 h2 rfl ?_
    refine rhF.aload_n (pc := 46) dX10_put_46 1 rfl ?_
    refine rhF.get (pc := 47) (rhR _) dX10_put_47 fl_X10_11 h2 rfl ?_
    refine rhF.iload_n (pc := 50) dX10_put_50 0 rfl ?_
    refine rhF.iald (pc := 51) dX10_put_51 h9 h10 ?_
    refine rhF.iload_n (pc := 52) dX10_put_52 2 rfl ?_
    refine rhF.ck (fun h20 => ?_)
    refine rhF.iast (pc := 53) dX10_put_53 h6 h20 ?_
    refine rhF.sub [1, 2, 0] rfl ?_
    exact (b_X10_put_54) _ _ _ _
theorem c_X10_put (E : rhE) (Γ : rhG) (M : rhM) (v0 : Nat) (v1 : Int32) (v2 : Int32) : ∀ a, f_X10_put Γ M v0 v1 v2 = some a → rhC E 1 yX10_put cX10_put 4 none [rhR v0, rhI v1, rhI v2] Γ M ((rhe1U Γ) a) := rhF.met (by decide +kernel) (Nat.le_of_ble_eq_true rfl) (b_X10_put M v0 v1 v2)
def f_X5_weighOn_188 (k37 : rhM → Nat → Int32 → Int32 → Option (rhM)) (Γ : rhG) (M : rhM) (v0 : Nat) (v1 : Int32) (v2 : Int32) : Option (rhM) :=
  let x33 : Int32 := v2 + 1
  k37 M v0 v1 x33
def f_X5_weighOn_37 (Γ : rhG) : Nat → rhM → Nat → Int32 → Int32 → Option (rhM)
  | 0, _, _, _, _ => none
  | n + 1, M, v0, v1, v2 =>
    rhck (Γ.2.2.1 v0 = 6) <|
    rhck (Γ.2.2.1 (M.2.2 v0 5) = 8) <|
    if v2 < (M.1 (M.2.2 v0 5) 5) then
      (rhck (Γ.2.2.1 (M.2.2 v0 3) = 11) <|
      rhck (Γ.2.2.1 (M.2.2 (M.2.2 v0 3) 1) = 15) <|
      rhck (0 ≤ (v1).toInt ∧ (v1).toInt < (Γ.2.2.2 (M.2.2 (M.2.2 v0 3) 1) : Nat)) <|
      rhck (Γ.2.2.1 (M.2.2 (M.2.2 v0 5) 8) = 15) <|
      rhck (0 ≤ (v2).toInt ∧ (v2).toInt < (Γ.2.2.2 (M.2.2 (M.2.2 v0 5) 8) : Nat)) <|
      let x17 := (M.1 (M.2.2 (M.2.2 v0 3) 1) v1.toNatClampNeg) + (M.1 (M.2.2 (M.2.2 v0 5) 8) v2.toNatClampNeg)
      rhck (Γ.2.2.1 (M.2.2 (M.2.2 v0 5) 6) = 16) <|
      rhck (0 ≤ (v2).toInt ∧ (v2).toInt < (Γ.2.2.2 (M.2.2 (M.2.2 v0 5) 6) : Nat)) <|
      rhck (Γ.2.2.1 (M.2.2 v0 2) = 1) <|
      (f_X0_numberOf Γ M (M.2.2 v0 2) (M.2.1 (M.2.2 (M.2.2 v0 5) 6) v2.toNatClampNeg)).bind fun r21 =>
      let x22 := r21.1
      if x22 = ((-1)) then
        (rhck (Γ.2.2.1 (r21.2.2.2 v0 5) = 8) <|
        rhck (Γ.2.2.1 (r21.2.2.2 (r21.2.2.2 v0 5) 6) = 16) <|
        rhck (0 ≤ (v2).toInt ∧ (v2).toInt < (Γ.2.2.2 (r21.2.2.2 (r21.2.2.2 v0 5) 6) : Nat)) <|
        rhck (Γ.2.2.1 (r21.2.2.2 (r21.2.2.2 v0 5) 7) = 15) <|
        rhck (0 ≤ (v2).toInt ∧ (v2).toInt < (Γ.2.2.2 (r21.2.2.2 (r21.2.2.2 v0 5) 7) : Nat)) <|
        rhck (Γ.2.2.1 (r21.2.2.2 v0 2) = 1) <|
        (f_X0_add Γ r21.2 (r21.2.2.2 v0 2) (r21.2.2.1 (r21.2.2.2 (r21.2.2.2 v0 5) 6) v2.toNatClampNeg) v1 (r21.2.1 (r21.2.2.2 (r21.2.2.2 v0 5) 7) v2.toNatClampNeg)).bind fun r30 =>
        let x31 := r30.1
        if x31 = ((-1)) then
          (f_X5_weighOn_188 (f_X5_weighOn_37 Γ n) Γ r30.2 v0 v1 v2)
        else
          rhck (Γ.2.2.1 (r30.2.2.2 v0 3) = 11) <|
          (f_X10_put Γ r30.2 (r30.2.2.2 v0 3) x31 x17).bind fun r35 =>
          f_X5_weighOn_188 (f_X5_weighOn_37 Γ n) Γ r35 v0 v1 v2)
      else
        (f_X5_isBetter Γ r21.2 v0 x22 v1 x17).bind fun r36 =>
        if r36 = 0 then
          (f_X5_weighOn_188 (f_X5_weighOn_37 Γ n) Γ r21.2 v0 v1 v2)
        else
          rhck (Γ.2.2.1 (r21.2.2.2 v0 5) = 8) <|
          rhck (Γ.2.2.1 (r21.2.2.2 (r21.2.2.2 v0 5) 7) = 15) <|
          rhck (0 ≤ (v2).toInt ∧ (v2).toInt < (Γ.2.2.2 (r21.2.2.2 (r21.2.2.2 v0 5) 7) : Nat)) <|
          rhck (Γ.2.2.1 (r21.2.2.2 v0 2) = 1) <|
          (f_X0_lead Γ r21.2 (r21.2.2.2 v0 2) x22 v1 (r21.2.1 (r21.2.2.2 (r21.2.2.2 v0 5) 7) v2.toNatClampNeg)).bind fun r42 =>
          rhck (Γ.2.2.1 (r42.2.2 v0 3) = 11) <|
          (f_X10_drop Γ r42 (r42.2.2 v0 3) x22).bind fun r44 =>
          rhck (Γ.2.2.1 (r44.2.2 v0 3) = 11) <|
          (f_X10_put Γ r44 (r44.2.2 v0 3) x22 x17).bind fun r46 =>
          f_X5_weighOn_188 (f_X5_weighOn_37 Γ n) Γ r46 v0 v1 v2)
    else
      some M
def f_X5_weighOn (Γ : rhG) (M : rhM) (v0 : Nat) (v1 : Int32) : Option (rhM) :=
  rhck (Γ.2.2.1 v0 = 6) <|
  rhck (Γ.2.2.1 (M.2.2 v0 2) = 1) <|
  rhck (Γ.2.2.1 (M.2.2 (M.2.2 v0 2) 1) = 16) <|
  rhck (0 ≤ (v1).toInt ∧ (v1).toInt < (Γ.2.2.2 (M.2.2 (M.2.2 v0 2) 1) : Nat)) <|
  rhck (Γ.2.2.1 (M.2.2 v0 5) = 8) <|
  (f_X7_look Γ M (M.2.2 v0 5) (M.2.2 v0 6) (M.2.1 (M.2.2 (M.2.2 v0 2) 1) v1.toNatClampNeg)).bind fun r6 =>
  rhck (Γ.2.2.1 (r6.2.2 v0 5) = 8) <|
  (f_X7_listPulls Γ r6 (r6.2.2 v0 5) (r6.2.2 v0 6) (r6.2.2 v0 4)).bind fun r8 =>
  f_X5_weighOn_37 Γ rhFU r8 v0 v1 0
set_option maxHeartbeats 4000000 in
set_option maxRecDepth 100000 in
theorem b_X5_weighOn_188 {E : rhE} {Γ : rhG} {k37 : rhM → Nat → Int32 → Int32 → Option (rhM)} (hk37 : ∀ (M : rhM) (v0 : Nat) (v1 : Int32) (v2 : Int32), rhF E 9 5 yX5_weighOn cX5_weighOn none Γ (rhe1U Γ) (k37 M v0 v1 v2) 37 [(0, rhR v0), (1, rhI v1), (2, rhI v2)] [] Γ M) : ∀ (M : rhM) (v0 : Nat) (v1 : Int32) (v2 : Int32), rhF E 9 5 yX5_weighOn cX5_weighOn none Γ (rhe1U Γ) (f_X5_weighOn_188 k37 Γ M v0 v1 v2) 188 [(0, rhR v0), (1, rhI v1), (2, rhI v2)] [] Γ M := by
  intro M v0 v1 v2
  rw [f_X5_weighOn_188]
  refine rhF.iinc (pc := 188) (L' := [(2, rhI _), (0, rhR _), (1, rhI _)]) dX5_weighOn_188 2 rfl rfl (by decide) rfl ?_
  refine rhF.goto (pc := 191) 37 dX5_weighOn_191 (by decide) ?_
  refine rhF.sub [1, 2, 0] rfl ?_
  exact hk37 _ _ _ _
set_option maxHeartbeats 4000000 in
set_option maxRecDepth 100000 in
theorem b_X5_weighOn_37 {E : rhE} {Γ : rhG} : ∀ (n : Nat) (M : rhM) (v0 : Nat) (v1 : Int32) (v2 : Int32), rhF E 9 5 yX5_weighOn cX5_weighOn none Γ (rhe1U Γ) (f_X5_weighOn_37 Γ n M v0 v1 v2) 37 [(0, rhR v0), (1, rhI v1), (2, rhI v2)] [] Γ M := by
  intro n
  induction n with
  | zero => intro M v0 v1 v2; rw [f_X5_weighOn_37]; exact rhF.nope
  | succ n ih =>
    intro M v0 v1 v2
    rw [f_X5_weighOn_37]
    refine rhF.iload_n (pc := 37) dX5_weighOn_37 2 rfl ?_
    refine rhF.aload_n (pc := 38) dX5_weighOn_38 0 rfl ?_
    refine rhF.ck (fun h9 => ?_)
    refine rhF.get (pc := 39) (rhR _) dX5_weighOn_39 fl_X5_12 h9 rfl ?_
    refine rhF.ck (fun h10 => ?_)
    refine rhF.get (pc := 42) (rhI _) dX5_weighOn_42 fl_X5_138 h10 rfl ?_
    refine rhF.icmp_ge (pc := 45) 194 dX5_weighOn_45 (by decide) (fun h11 => ?_) (fun h11 => ?_)
    · refine rhF.aload_n (pc := 48) dX5_weighOn_48 0 rfl ?_
      refine rhF.get (pc := 49) (rhR _) dX5_weighOn_49 fl_X5_39 h9 rfl ?_
      refine rhF.ck (fun h12 => ?_)
      refine rhF.get (pc := 52) (rhR _) dX5_weighOn_52 fl_X5_81 h12 rfl ?_
      refine rhF.iload_n (pc := 55) dX5_weighOn_55 1 rfl ?_
      refine rhF.ck (fun h13 => ?_)
      refine rhF.ck (fun h14 => ?_)
      refine rhF.iald (pc := 56) dX5_weighOn_56 h13 h14 ?_
      refine rhF.aload_n (pc := 57) dX5_weighOn_57 0 rfl ?_
      refine rhF.get (pc := 58) (rhR _) dX5_weighOn_58 fl_X5_12 h9 rfl ?_
      refine rhF.get (pc := 61) (rhR _) dX5_weighOn_61 fl_X5_191 h10 rfl ?_
      refine rhF.iload_n (pc := 64) dX5_weighOn_64 2 rfl ?_
      refine rhF.ck (fun h15 => ?_)
      refine rhF.ck (fun h16 => ?_)
      refine rhF.iald (pc := 65) dX5_weighOn_65 h15 h16 ?_
      refine rhF.iadd (pc := 66) dX5_weighOn_66 ?_
      refine rhF.istore_n (pc := 67) (L' := [(3, rhI _), (0, rhR _), (1, rhI _), (2, rhI _)]) dX5_weighOn_67 (by decide) rfl ?_
      refine rhF.aload_n (pc := 68) dX5_weighOn_68 1 rfl ?_
      refine rhF.get (pc := 69) (rhR _) dX5_weighOn_69 fl_X5_32 h9 rfl ?_
      refine rhF.aload_n (pc := 72) dX5_weighOn_72 1 rfl ?_
      refine rhF.get (pc := 73) (rhR _) dX5_weighOn_73 fl_X5_12 h9 rfl ?_
      refine rhF.get (pc := 76) (rhR _) dX5_weighOn_76 fl_X5_141 h10 rfl ?_
      refine rhF.iload_n (pc := 79) dX5_weighOn_79 3 rfl ?_
      refine rhF.ck (fun h18 => ?_)
      refine rhF.ck (fun h19 => ?_)
      refine rhF.lald (pc := 80) dX5_weighOn_80 h18 h19 ?_
      refine rhF.ck (fun h20 => ?_)
      refine rhF.callV (pc := 81) (ci := 0) (embc := rhe1I _) [rhJ _] dX5_weighOn_81 ml_X5_104 mv_X0_numberOf ⟨_, rfl, rfl⟩ h20 (c_X0_numberOf _ _ _ _ _) (by decide) (by decide) rfl (Nat.le_of_ble_eq_true rfl) (fun r21 _ => ?_)
      refine rhF.istore (pc := 84) (L' := [(4, rhI _), (3, rhI _), (0, rhR _), (1, rhI _), (2, rhI _)]) dX5_weighOn_84 (by decide) rfl ?_
      refine rhF.iload (pc := 86) dX5_weighOn_86 0 rfl ?_
      refine rhF.iconst (pc := 88) (v := (-1)) dX5_weighOn_88 (by decide) ?_
      refine rhF.icmp_ne (pc := 89) 139 dX5_weighOn_89 (by decide) (fun h23 => ?_) (fun h23 => ?_)
      · refine rhF.aload_n (pc := 92) dX5_weighOn_92 2 rfl ?_
        refine rhF.get (pc := 93) (rhR _) dX5_weighOn_93 fl_X5_32 h9 rfl ?_
        refine rhF.aload_n (pc := 96) dX5_weighOn_96 2 rfl ?_
        refine rhF.get (pc := 97) (rhR _) dX5_weighOn_97 fl_X5_12 h9 rfl ?_
        refine rhF.ck (fun h24 => ?_)
        refine rhF.get (pc := 100) (rhR _) dX5_weighOn_100 fl_X5_141 h24 rfl ?_
        refine rhF.iload_n (pc := 103) dX5_weighOn_103 4 rfl ?_
        refine rhF.ck (fun h25 => ?_)
        refine rhF.ck (fun h26 => ?_)
        refine rhF.lald (pc := 104) dX5_weighOn_104 h25 h26 ?_
        refine rhF.iload_n (pc := 105) dX5_weighOn_105 3 rfl ?_
        refine rhF.aload_n (pc := 106) dX5_weighOn_106 2 rfl ?_
        refine rhF.get (pc := 107) (rhR _) dX5_weighOn_107 fl_X5_12 h9 rfl ?_
        refine rhF.get (pc := 110) (rhR _) dX5_weighOn_110 fl_X5_144 h24 rfl ?_
        refine rhF.iload_n (pc := 113) dX5_weighOn_113 4 rfl ?_
        refine rhF.ck (fun h27 => ?_)
        refine rhF.ck (fun h28 => ?_)
        refine rhF.iald (pc := 114) dX5_weighOn_114 h27 h28 ?_
        refine rhF.ck (fun h29 => ?_)
        refine rhF.callV (pc := 115) (ci := 0) (embc := rhe1I _) [rhJ _, rhI _, rhI _] dX5_weighOn_115 ml_X5_108 mv_X0_add ⟨_, rfl, rfl⟩ h29 (c_X0_add _ _ _ _ _ _ _) (by decide) (by decide) rfl (Nat.le_of_ble_eq_true rfl) (fun r30 _ => ?_)
        refine rhF.istore (pc := 118) (L' := [(4, rhI _), (3, rhI _), (0, rhR _), (1, rhI _), (2, rhI _)]) dX5_weighOn_118 (by decide) rfl ?_
        refine rhF.iload (pc := 120) dX5_weighOn_120 0 rfl ?_
        refine rhF.iconst (pc := 122) (v := (-1)) dX5_weighOn_122 (by decide) ?_
        refine rhF.icmp_eq (pc := 123) 188 dX5_weighOn_123 (by decide) (fun h32 => ?_) (fun h32 => ?_)
        · refine rhF.sub [2, 3, 4] rfl ?_
          exact (b_X5_weighOn_188 ih) _ _ _ _
        · refine rhF.aload_n (pc := 126) dX5_weighOn_126 2 rfl ?_
          refine rhF.get (pc := 127) (rhR _) dX5_weighOn_127 fl_X5_39 h9 rfl ?_
          refine rhF.iload (pc := 130) dX5_weighOn_130 0 rfl ?_
          refine rhF.iload_n (pc := 132) dX5_weighOn_132 1 rfl ?_
          refine rhF.ck (fun h34 => ?_)
          refine rhF.callV (pc := 133) (ci := 10) (embc := rhe1U _) [rhI _, rhI _] dX5_weighOn_133 ml_X5_164 mv_X10_put ⟨_, rfl, rfl⟩ h34 (c_X10_put _ _ _ _ _ _) (by decide) (by decide) rfl (Nat.le_of_ble_eq_true rfl) (fun r35 _ => ?_)
          refine rhF.goto (pc := 136) 188 dX5_weighOn_136 (by decide) ?_
          refine rhF.sub [2, 3, 4] rfl ?_
          exact (b_X5_weighOn_188 ih) _ _ _ _
      · refine rhF.aload_n (pc := 139) dX5_weighOn_139 2 rfl ?_
        refine rhF.iload (pc := 140) dX5_weighOn_140 0 rfl ?_
        refine rhF.iload_n (pc := 142) dX5_weighOn_142 3 rfl ?_
        refine rhF.iload_n (pc := 143) dX5_weighOn_143 1 rfl ?_
        refine rhF.callV (pc := 144) (ci := 5) (embc := rhe0I _ _) [rhI _, rhI _, rhI _] dX5_weighOn_144 ml_X5_194 mv_X5_isBetter ⟨_, rfl, rfl⟩ h9 (c_X5_isBetter _ _ _ _ _ _ _) (by decide) (by decide) rfl (Nat.le_of_ble_eq_true rfl) (fun r36 _ => ?_)
        refine rhF.if_eq (pc := 147) 188 dX5_weighOn_147 (by decide) (fun h37 => ?_) (fun h37 => ?_)
        · refine rhF.sub [2, 3, 4] rfl ?_
          exact (b_X5_weighOn_188 ih) _ _ _ _
        · refine rhF.aload_n (pc := 150) dX5_weighOn_150 2 rfl ?_
          refine rhF.get (pc := 151) (rhR _) dX5_weighOn_151 fl_X5_32 h9 rfl ?_
          refine rhF.iload (pc := 154) dX5_weighOn_154 0 rfl ?_
          refine rhF.iload_n (pc := 156) dX5_weighOn_156 3 rfl ?_
          refine rhF.aload_n (pc := 157) dX5_weighOn_157 2 rfl ?_
          refine rhF.get (pc := 158) (rhR _) dX5_weighOn_158 fl_X5_12 h9 rfl ?_
          refine rhF.ck (fun h38 => ?_)
          refine rhF.get (pc := 161) (rhR _) dX5_weighOn_161 fl_X5_144 h38 rfl ?_
          refine rhF.iload_n (pc := 164) dX5_weighOn_164 4 rfl ?_
          refine rhF.ck (fun h39 => ?_)
          refine rhF.ck (fun h40 => ?_)
          refine rhF.iald (pc := 165) dX5_weighOn_165 h39 h40 ?_
          refine rhF.ck (fun h41 => ?_)
          refine rhF.callV (pc := 166) (ci := 0) (embc := rhe1U _) [rhI _, rhI _, rhI _] dX5_weighOn_166 ml_X5_198 mv_X0_lead ⟨_, rfl, rfl⟩ h41 (c_X0_lead _ _ _ _ _ _ _) (by decide) (by decide) rfl (Nat.le_of_ble_eq_true rfl) (fun r42 _ => ?_)
          refine rhF.aload_n (pc := 169) dX5_weighOn_169 2 rfl ?_
          refine rhF.get (pc := 170) (rhR _) dX5_weighOn_170 fl_X5_39 h9 rfl ?_
          refine rhF.iload (pc := 173) dX5_weighOn_173 0 rfl ?_
          refine rhF.ck (fun h43 => ?_)
          refine rhF.callV (pc := 175) (ci := 10) (embc := rhe1U _) [rhI _] dX5_weighOn_175 ml_X5_175 mv_X10_drop ⟨_, rfl, rfl⟩ h43 (c_X10_drop _ _ _ _ _) (by decide) (by decide) rfl (Nat.le_of_ble_eq_true rfl) (fun r44 _ => ?_)
          refine rhF.aload_n (pc := 178) dX5_weighOn_178 2 rfl ?_
          refine rhF.get (pc := 179) (rhR _) dX5_weighOn_179 fl_X5_39 h9 rfl ?_
          refine rhF.iload (pc := 182) dX5_weighOn_182 0 rfl ?_
          refine rhF.iload_n (pc := 184) dX5_weighOn_184 1 rfl ?_
          refine rhF.ck (fun h45 => ?_)
          refine rhF.callV (pc := 185) (ci := 10) (embc := rhe1U _) [rhI _, rhI _] dX5_weighOn_185 ml_X5_164 mv_X10_put ⟨_, rfl, rfl⟩ h45 (c_X10_put _ _ _ _ _ _) (by decide) (by decide) rfl (Nat.le_of_ble_eq_true rfl) (fun r46 _ => ?_)
          refine rhF.sub [2, 3, 4] rfl ?_
          exact (b_X5_weighOn_188 ih) _ _ _ _
    · exact rhF.vret (pc := 194) dX5_weighOn_194 rfl rfl
set_option maxHeartbeats 4000000 in
set_option maxRecDepth 100000 in
theorem b_X5_weighOn {E : rhE} {Γ : rhG} : ∀ (M : rhM) (v0 : Nat) (v1 : Int32), rhF E 9 5 yX5_weighOn cX5_weighOn none Γ (rhe1U Γ) (f_X5_weighOn Γ M v0 v1) 0 [(0, rhR v0), (1, rhI v1)] [] Γ M := by
  intro M v0 v1
  rw [f_X5_weighOn]
  refine rhF.aload_n (pc := 0) dX5_weighOn_0 0 rfl ?_
  refine rhF.ck (fun h1 => ?_)
  refine rhF.get (pc := 1) (rhR _) dX5_weighOn_1 fl_X5_12 h1 rfl ?_
  refine rhF.aload_n (pc := 4) dX5_weighOn_4 0 rfl ?_
  refine rhF.get (pc := 5) (rhR _) dX5_weighOn_5 fl_X5_88 h1 rfl ?_
  refine rhF.aload_n (pc := 8) dX5_weighOn_8 0 rfl ?_
  refine rhF.get (pc := 9) (rhR _) dX5_weighOn_9 fl_X5_32 h1 rfl ?_
  refine rhF.ck (fun h2 => ?_)
  refine rhF.get (pc := 12) (rhR _) dX5_weighOn_12 fl_X5_126 h2 rfl ?_
  refine rhF.iload_n (pc := 15) dX5_weighOn_15 1 rfl ?_
  refine rhF.ck (fun h3 => ?_)
  refine rhF.ck (fun h4 => ?_)
  refine rhF.lald (pc := 16) dX5_weighOn_16 h3 h4 ?_
  refine rhF.ck (fun h5 => ?_)
  refine rhF.callV (pc := 17) (ci := 7) (embc := rhe1U _) [rhR _, rhJ _] dX5_weighOn_17 ml_X5_130 mv_X7_look ⟨_, rfl, rfl⟩ h5 (c_X7_look _ _ _ _ _ _) (by decide) (by decide) rfl (Nat.le_of_ble_eq_true rfl) (fun r6 _ => ?_)
  refine rhF.aload_n (pc := 20) dX5_weighOn_20 0 rfl ?_
  refine rhF.get (pc := 21) (rhR _) dX5_weighOn_21 fl_X5_12 h1 rfl ?_
  refine rhF.aload_n (pc := 24) dX5_weighOn_24 0 rfl ?_
  refine rhF.get (pc := 25) (rhR _) dX5_weighOn_25 fl_X5_88 h1 rfl ?_
  refine rhF.aload_n (pc := 28) dX5_weighOn_28 0 rfl ?_
  refine rhF.get (pc := 29) (rhR _) dX5_weighOn_29 fl_X5_56 h1 rfl ?_
  refine rhF.ck (fun h7 => ?_)
  refine rhF.callV (pc := 32) (ci := 7) (embc := rhe1U _) [rhR _, rhR _] dX5_weighOn_32 ml_X5_134 mv_X7_listPulls ⟨_, rfl, rfl⟩ h7 (c_X7_listPulls _ _ _ _ _ _) (by decide) (by decide) rfl (Nat.le_of_ble_eq_true rfl) (fun r8 _ => ?_)
  refine rhF.iconst (pc := 35) (v := 0) dX5_weighOn_35 (by decide) ?_
  refine rhF.istore_n (pc := 36) (L' := [(2, rhI _), (0, rhR _), (1, rhI _)]) dX5_weighOn_36 (by decide) rfl ?_
  refine rhF.sub [1, 2, 0] rfl ?_
  exact (b_X5_weighOn_37 rhFU) _ _ _ _
theorem c_X5_weighOn (E : rhE) (Γ : rhG) (M : rhM) (v0 : Nat) (v1 : Int32) : ∀ a, f_X5_weighOn Γ M v0 v1 = some a → rhC E 9 yX5_weighOn cX5_weighOn 5 none [rhR v0, rhI v1] Γ M ((rhe1U Γ) a) := rhF.met (by decide +kernel) (Nat.le_of_ble_eq_true rfl) (b_X5_weighOn M v0 v1)
def f_X5_weigh_73 (k127 : rhM → Nat → Int32 → Option (Int32 × rhM)) (Γ : rhG) : Nat → rhM → Nat → Int32 → Int32 → Option (Int32 × rhM)
  | 0, _, _, _, _ => none
  | n + 1, M, v0, v5, v7 =>
    rhck (Γ.2.2.1 v0 = 6) <|
    if v7 < (M.1 v0 0) then
      (rhck (Γ.2.2.1 (M.2.2 v0 3) = 11) <|
      (f_X10_headOf Γ M (M.2.2 v0 3) v5).bind fun r19 =>
      if r19 = ((-1)) then
        (k127 M v0 v5)
      else
        (f_X10_headOf Γ M (M.2.2 v0 3) v5).bind fun r21 =>
        (f_X10_drop Γ M (M.2.2 v0 3) r21).bind fun r22 =>
        (f_X5_weighOn Γ r22 v0 r21).bind fun r23 =>
        let x24 : Int32 := v7 + 1
        f_X5_weigh_73 k127 Γ n r23 v0 v5 x24)
    else
      k127 M v0 v5
def f_X5_weigh_127 (k36 : rhM → Nat → Int32 → Option (Int32 × rhM)) (Γ : rhG) (M : rhM) (v0 : Nat) (v5 : Int32) : Option (Int32 × rhM) :=
  let x25 : Int32 := v5 + 1
  k36 M v0 x25
def f_X5_weigh_36 (Γ : rhG) : Nat → rhM → Nat → Int32 → Option (Int32 × rhM)
  | 0, _, _, _ => none
  | n + 1, M, v0, v5 =>
    if 36000000 < v5 then
      (some (((-1), M)))
    else
      rhck (Γ.2.2.1 v0 = 6) <|
      rhck (Γ.2.2.1 (M.2.2 v0 3) = 11) <|
      if 0 < (M.1 (M.2.2 v0 3) 0) then
        ((f_X5_bestMet Γ M v0 v5).bind fun r13 =>
        let x14 := r13.1
        if x14 = ((-1)) then
          (f_X5_weigh_73 (f_X5_weigh_127 (f_X5_weigh_36 Γ n) Γ) Γ rhFU r13.2 v0 v5 0)
        else
          some ((x14, r13.2)))
      else
        some (((-1), M))
def f_X5_weigh (Γ : rhG) (M : rhM) (v0 : Nat) (v1 : Nat) (v2 : Int64) : Option (Int32 × rhM) :=
  rhck (Γ.2.2.1 v0 = 6) <|
  (f_X5_begin Γ M v0 v1 v2).bind fun r2 =>
  let x3 := r2.1
  rhck (Γ.2.2.1 (r2.2.2.2 v0 3) = 11) <|
  (f_X10_begin Γ r2.2 (r2.2.2.2 v0 3)).bind fun r5 =>
  if x3 = ((-1)) then
    (some (((-1), r5)))
  else
    rhck (Γ.2.2.1 (r5.2.2 v0 3) = 11) <|
    (f_X10_put Γ r5 (r5.2.2 v0 3) x3 (0 : Int32)).bind fun r8 =>
    f_X5_weigh_36 Γ rhFU r8 v0 0
set_option maxHeartbeats 4000000 in
set_option maxRecDepth 100000 in
theorem b_X5_weigh_73 {E : rhE} {Γ : rhG} {k127 : rhM → Nat → Int32 → Option (Int32 × rhM)} (hk127 : ∀ (M : rhM) (v0 : Nat) (v5 : Int32), rhF E 10 9 yX5_weigh cX5_weigh (some .int) Γ (rhe1I Γ) (k127 M v0 v5) 127 [(0, rhR v0), (5, rhI v5)] [] Γ M) : ∀ (n : Nat) (M : rhM) (v0 : Nat) (v5 : Int32) (v7 : Int32), rhF E 10 9 yX5_weigh cX5_weigh (some .int) Γ (rhe1I Γ) (f_X5_weigh_73 k127 Γ n M v0 v5 v7) 73 [(0, rhR v0), (5, rhI v5), (7, rhI v7)] [] Γ M := by
  intro n
  induction n with
  | zero => intro M v0 v5 v7; rw [f_X5_weigh_73]; exact rhF.nope
  | succ n ih =>
    intro M v0 v5 v7
    rw [f_X5_weigh_73]
    refine rhF.iload (pc := 73) dX5_weigh_73 2 rfl ?_
    refine rhF.aload_n (pc := 75) dX5_weigh_75 0 rfl ?_
    refine rhF.ck (fun h16 => ?_)
    refine rhF.get (pc := 76) (rhI _) dX5_weigh_76 fl_X5_24 h16 rfl ?_
    refine rhF.icmp_ge (pc := 79) 127 dX5_weigh_79 (by decide) (fun h17 => ?_) (fun h17 => ?_)
    · refine rhF.aload_n (pc := 82) dX5_weigh_82 0 rfl ?_
      refine rhF.get (pc := 83) (rhR _) dX5_weigh_83 fl_X5_39 h16 rfl ?_
      refine rhF.iload (pc := 86) dX5_weigh_86 1 rfl ?_
      refine rhF.ck (fun h18 => ?_)
      refine rhF.callV (pc := 88) (ci := 10) (embc := rhe0I _ _) [rhI _] dX5_weigh_88 ml_X5_172 mv_X10_headOf ⟨_, rfl, rfl⟩ h18 (c_X10_headOf _ _ _ _ _) (by decide) (by decide) rfl (Nat.le_of_ble_eq_true rfl) (fun r19 _ => ?_)
      refine rhF.iconst (pc := 91) (v := (-1)) dX5_weigh_91 (by decide) ?_
      refine rhF.icmp_eq (pc := 92) 127 dX5_weigh_92 (by decide) (fun h20 => ?_) (fun h20 => ?_)
      · refine rhF.sub [0, 1] rfl ?_
        exact hk127 _ _ _
      · refine rhF.aload_n (pc := 95) dX5_weigh_95 0 rfl ?_
        refine rhF.get (pc := 96) (rhR _) dX5_weigh_96 fl_X5_39 h16 rfl ?_
        refine rhF.iload (pc := 99) dX5_weigh_99 1 rfl ?_
        refine rhF.callV (pc := 101) (ci := 10) (embc := rhe0I _ _) [rhI _] dX5_weigh_101 ml_X5_172 mv_X10_headOf ⟨_, rfl, rfl⟩ h18 (c_X10_headOf _ _ _ _ _) (by decide) (by decide) rfl (Nat.le_of_ble_eq_true rfl) (fun r21 _ => ?_)
        refine rhF.istore (pc := 104) (L' := [(8, rhI _), (0, rhR _), (5, rhI _), (7, rhI _)]) dX5_weigh_104 (by decide) rfl ?_
        refine rhF.aload_n (pc := 106) dX5_weigh_106 1 rfl ?_
        refine rhF.get (pc := 107) (rhR _) dX5_weigh_107 fl_X5_39 h16 rfl ?_
        refine rhF.iload (pc := 110) dX5_weigh_110 0 rfl ?_
        refine rhF.callV (pc := 112) (ci := 10) (embc := rhe1U _) [rhI _] dX5_weigh_112 ml_X5_175 mv_X10_drop ⟨_, rfl, rfl⟩ h18 (c_X10_drop _ _ _ _ _) (by decide) (by decide) rfl (Nat.le_of_ble_eq_true rfl) (fun r22 _ => ?_)
        refine rhF.aload_n (pc := 115) dX5_weigh_115 1 rfl ?_
        refine rhF.iload (pc := 116) dX5_weigh_116 0 rfl ?_
        refine rhF.callV (pc := 118) (ci := 5) (embc := rhe1U _) [rhI _] dX5_weigh_118 ml_X5_178 mv_X5_weighOn ⟨_, rfl, rfl⟩ h16 (c_X5_weighOn _ _ _ _ _) (by decide) (by decide) rfl (Nat.le_of_ble_eq_true rfl) (fun r23 _ => ?_)
        refine rhF.iinc (pc := 121) (L' := [(7, rhI _), (8, rhI _), (0, rhR _), (5, rhI _)]) dX5_weigh_121 3 rfl rfl (by decide) rfl ?_
        refine rhF.goto (pc := 124) 73 dX5_weigh_124 (by decide) ?_
        refine rhF.sub [2, 3, 0] rfl ?_
        exact ih _ _ _ _
    · refine rhF.sub [0, 1] rfl ?_
      exact hk127 _ _ _
set_option maxHeartbeats 4000000 in
set_option maxRecDepth 100000 in
theorem b_X5_weigh_127 {E : rhE} {Γ : rhG} {k36 : rhM → Nat → Int32 → Option (Int32 × rhM)} (hk36 : ∀ (M : rhM) (v0 : Nat) (v5 : Int32), rhF E 10 9 yX5_weigh cX5_weigh (some .int) Γ (rhe1I Γ) (k36 M v0 v5) 36 [(0, rhR v0), (5, rhI v5)] [] Γ M) : ∀ (M : rhM) (v0 : Nat) (v5 : Int32), rhF E 10 9 yX5_weigh cX5_weigh (some .int) Γ (rhe1I Γ) (f_X5_weigh_127 k36 Γ M v0 v5) 127 [(0, rhR v0), (5, rhI v5)] [] Γ M := by
  intro M v0 v5
  rw [f_X5_weigh_127]
  refine rhF.iinc (pc := 127) (L' := [(5, rhI _), (0, rhR _)]) dX5_weigh_127 1 rfl rfl (by decide) rfl ?_
  refine rhF.goto (pc := 130) 36 dX5_weigh_130 (by decide) ?_
  refine rhF.sub [1, 0] rfl ?_
  exact hk36 _ _ _
set_option maxHeartbeats 4000000 in
set_option maxRecDepth 100000 in
theorem b_X5_weigh_36 {E : rhE} {Γ : rhG} : ∀ (n : Nat) (M : rhM) (v0 : Nat) (v5 : Int32), rhF E 10 9 yX5_weigh cX5_weigh (some .int) Γ (rhe1I Γ) (f_X5_weigh_36 Γ n M v0 v5) 36 [(0, rhR v0), (5, rhI v5)] [] Γ M := by
  intro n
  induction n with
  | zero => intro M v0 v5; rw [f_X5_weigh_36]; exact rhF.nope
  | succ n ih =>
    intro M v0 v5
    rw [f_X5_weigh_36]
    refine rhF.iload (pc := 36) dX5_weigh_36 1 rfl ?_
    refine rhF.ldc (pc := 38) dX5_weigh_38 k_X5_167 ?_
    refine rhF.icmp_gt (pc := 40) 133 dX5_weigh_40 (by decide) (fun h9 => ?_) (fun h9 => ?_)
    · refine rhF.iconst (pc := 133) (v := (-1)) dX5_weigh_133 (by decide) ?_
      exact rhF.zret (pc := 134) dX5_weigh_134 rfl rfl rfl
    · refine rhF.aload_n (pc := 43) dX5_weigh_43 0 rfl ?_
      refine rhF.ck (fun h10 => ?_)
      refine rhF.get (pc := 44) (rhR _) dX5_weigh_44 fl_X5_39 h10 rfl ?_
      refine rhF.ck (fun h11 => ?_)
      refine rhF.get (pc := 47) (rhI _) dX5_weigh_47 fl_X5_168 h11 rfl ?_
      refine rhF.if_le (pc := 50) 133 dX5_weigh_50 (by decide) (fun h12 => ?_) (fun h12 => ?_)
      · refine rhF.aload_n (pc := 53) dX5_weigh_53 0 rfl ?_
        refine rhF.iload (pc := 54) dX5_weigh_54 1 rfl ?_
        refine rhF.callV (pc := 56) (ci := 5) (embc := rhe1I _) [rhI _] dX5_weigh_56 ml_X5_169 mv_X5_bestMet ⟨_, rfl, rfl⟩ h10 (c_X5_bestMet _ _ _ _ _) (by decide) (by decide) rfl (Nat.le_of_ble_eq_true rfl) (fun r13 _ => ?_)
        refine rhF.istore (pc := 59) (L' := [(6, rhI _), (0, rhR _), (5, rhI _)]) dX5_weigh_59 (by decide) rfl ?_
        refine rhF.iload (pc := 61) dX5_weigh_61 0 rfl ?_
        refine rhF.iconst (pc := 63) (v := (-1)) dX5_weigh_63 (by decide) ?_
        refine rhF.icmp_eq (pc := 64) 70 dX5_weigh_64 (by decide) (fun h15 => ?_) (fun h15 => ?_)
        · refine rhF.iconst (pc := 70) (v := 0) dX5_weigh_70 (by decide) ?_
          refine rhF.istore (pc := 71) (L' := [(7, rhI _), (6, rhI _), (0, rhR _), (5, rhI _)]) dX5_weigh_71 (by decide) rfl ?_
          refine rhF.sub [2, 3, 0] rfl ?_
          exact (b_X5_weigh_73 (b_X5_weigh_127 ih) rhFU) _ _ _ _
        · refine rhF.iload (pc := 67) dX5_weigh_67 0 rfl ?_
          exact rhF.zret (pc := 69) dX5_weigh_69 rfl rfl rfl
      · refine rhF.iconst (pc := 133) (v := (-1)) dX5_weigh_133 (by decide) ?_
        exact rhF.zret (pc := 134) dX5_weigh_134 rfl rfl rfl
set_option maxHeartbeats 4000000 in
set_option maxRecDepth 100000 in
theorem b_X5_weigh {E : rhE} {Γ : rhG} : ∀ (M : rhM) (v0 : Nat) (v1 : Nat) (v2 : Int64), rhF E 10 9 yX5_weigh cX5_weigh (some .int) Γ (rhe1I Γ) (f_X5_weigh Γ M v0 v1 v2) 0 [(0, rhR v0), (1, rhR v1), (2, rhJ v2)] [] Γ M := by
  intro M v0 v1 v2
  rw [f_X5_weigh]
  refine rhF.aload_n (pc := 0) dX5_weigh_0 0 rfl ?_
  refine rhF.aload_n (pc := 1) dX5_weigh_1 1 rfl ?_
  refine rhF.lload_n (pc := 2) dX5_weigh_2 2 rfl ?_
  refine rhF.ck (fun h1 => ?_)
  refine rhF.callV (pc := 3) (ci := 5) (embc := rhe1I _) [rhR _, rhJ _] dX5_weigh_3 ml_X5_112 mv_X5_begin ⟨_, rfl, rfl⟩ h1 (c_X5_begin _ _ _ _ _ _) (by decide) (by decide) rfl (Nat.le_of_ble_eq_true rfl) (fun r2 _ => ?_)
  refine rhF.istore (pc := 6) (L' := [(4, rhI _), (0, rhR _), (1, rhR _), (2, rhJ _)]) dX5_weigh_6 (by decide) rfl ?_
  refine rhF.aload_n (pc := 8) dX5_weigh_8 1 rfl ?_
  refine rhF.get (pc := 9) (rhR _) dX5_weigh_9 fl_X5_39 h1 rfl ?_
  refine rhF.ck (fun h4 => ?_)
  refine rhF.callV (pc := 12) (ci := 10) (embc := rhe1U _) [] dX5_weigh_12 ml_X5_162 mv_X10_begin ⟨_, rfl, rfl⟩ h4 (c_X10_begin _ _ _ _) (by decide) (by decide) rfl (Nat.le_of_ble_eq_true rfl) (fun r5 _ => ?_)
  refine rhF.iload (pc := 15) dX5_weigh_15 0 rfl ?_
  refine rhF.iconst (pc := 17) (v := (-1)) dX5_weigh_17 (by decide) ?_
  refine rhF.icmp_ne (pc := 18) 23 dX5_weigh_18 (by decide) (fun h6 => ?_) (fun h6 => ?_)
  · refine rhF.iconst (pc := 21) (v := (-1)) dX5_weigh_21 (by decide) ?_
    exact rhF.zret (pc := 22) dX5_weigh_22 rfl rfl rfl
  · refine rhF.aload_n (pc := 23) dX5_weigh_23 1 rfl ?_
    refine rhF.get (pc := 24) (rhR _) dX5_weigh_24 fl_X5_39 h1 rfl ?_
    refine rhF.iload (pc := 27) dX5_weigh_27 0 rfl ?_
    refine rhF.iconst (pc := 29) (v := 0) dX5_weigh_29 (by decide) ?_
    refine rhF.ck (fun h7 => ?_)
    refine rhF.callV (pc := 30) (ci := 10) (embc := rhe1U _) [rhI _, rhI _] dX5_weigh_30 ml_X5_164 mv_X10_put ⟨_, rfl, rfl⟩ h7 (c_X10_put _ _ _ _ _ _) (by decide) (by decide) rfl (Nat.le_of_ble_eq_true rfl) (fun r8 _ => ?_)
    refine rhF.iconst (pc := 33) (v := 0) dX5_weigh_33 (by decide) ?_
    refine rhF.istore (pc := 34) (L' := [(5, rhI _), (4, rhI _), (0, rhR _), (1, rhR _), (2, rhJ _)]) dX5_weigh_34 (by decide) rfl ?_
    refine rhF.sub [2, 0] rfl ?_
    exact (b_X5_weigh_36 rhFU) _ _ _
theorem c_X5_weigh (E : rhE) (Γ : rhG) (M : rhM) (v0 : Nat) (v1 : Nat) (v2 : Int64) : ∀ a, f_X5_weigh Γ M v0 v1 v2 = some a → rhC E 10 yX5_weigh cX5_weigh 9 (some .int) [rhR v0, rhR v1, rhJ v2] Γ M ((rhe1I Γ) a) := rhF.met (by decide +kernel) (Nat.le_of_ble_eq_true rfl) (b_X5_weigh M v0 v1 v2)
def f_X5_weightTo (Γ : rhG) (M : rhM) (v0 : Nat) (v1 : Int32) : Option (Int32) :=
  rhck (Γ.2.2.1 v0 = 6) <|
  rhck (Γ.2.2.1 (M.2.2 v0 3) = 11) <|
  rhck (Γ.2.2.1 (M.2.2 (M.2.2 v0 3) 1) = 15) <|
  rhck (0 ≤ (v1).toInt ∧ (v1).toInt < (Γ.2.2.2 (M.2.2 (M.2.2 v0 3) 1) : Nat)) <|
  some (M.1 (M.2.2 (M.2.2 v0 3) 1) v1.toNatClampNeg)
set_option maxHeartbeats 4000000 in
set_option maxRecDepth 100000 in
theorem b_X5_weightTo {E : rhE} {Γ : rhG} {M : rhM} : ∀ (v0 : Nat) (v1 : Int32), rhF E 1 2 yX5_weightTo cX5_weightTo (some .int) Γ (rhe0I Γ M) (f_X5_weightTo Γ M v0 v1) 0 [(0, rhR v0), (1, rhI v1)] [] Γ M := by
  intro v0 v1
  rw [f_X5_weightTo]
  refine rhF.aload_n (pc := 0) dX5_weightTo_0 0 rfl ?_
  refine rhF.ck (fun h1 => ?_)
  refine rhF.get (pc := 1) (rhR _) dX5_weightTo_1 fl_X5_39 h1 rfl ?_
  refine rhF.ck (fun h2 => ?_)
  refine rhF.get (pc := 4) (rhR _) dX5_weightTo_4 fl_X5_81 h2 rfl ?_
  refine rhF.iload_n (pc := 7) dX5_weightTo_7 1 rfl ?_
  refine rhF.ck (fun h3 => ?_)
  refine rhF.ck (fun h4 => ?_)
  refine rhF.iald (pc := 8) dX5_weightTo_8 h3 h4 ?_
  exact rhF.zret (pc := 9) dX5_weightTo_9 rfl rfl rfl
theorem c_X5_weightTo (E : rhE) (Γ : rhG) (M : rhM) (v0 : Nat) (v1 : Int32) : ∀ a, f_X5_weightTo Γ M v0 v1 = some a → rhC E 1 yX5_weightTo cX5_weightTo 2 (some .int) [rhR v0, rhI v1] Γ M ((rhe0I Γ M) a) := rhF.met (by decide +kernel) (Nat.le_of_ble_eq_true rfl) (b_X5_weightTo v0 v1)
def f_X6_add (Γ : rhG) (M : rhM) (v0 : Nat) (v1 : Int32) (v2 : Int32) (v3 : Int32) (v4 : Int32) (v5 : Int32) : Option (Int32 × rhM) :=
  rhck (Γ.2.2.1 v0 = 7) <|
  if (M.1 v0 0) < 20 then
    (rhck (Γ.2.2.1 (M.2.2 v0 1) = 15) <|
    rhck (0 ≤ (M.1 v0 0).toInt ∧ (M.1 v0 0).toInt < (Γ.2.2.2 (M.2.2 v0 1) : Nat)) <|
    let M5 := rhsi M (M.2.2 v0 1) (M.1 v0 0 : Int32).toNatClampNeg v1
    rhck (Γ.2.2.1 (M.2.2 v0 2) = 15) <|
    rhck (0 ≤ (M5.1 v0 0).toInt ∧ (M5.1 v0 0).toInt < (Γ.2.2.2 (M.2.2 v0 2) : Nat)) <|
    let M8 := rhsi M5 (M.2.2 v0 2) (M5.1 v0 0 : Int32).toNatClampNeg v2
    rhck (Γ.2.2.1 (M.2.2 v0 3) = 15) <|
    rhck (0 ≤ (M8.1 v0 0).toInt ∧ (M8.1 v0 0).toInt < (Γ.2.2.2 (M.2.2 v0 3) : Nat)) <|
    let M11 := rhsi M8 (M.2.2 v0 3) (M8.1 v0 0 : Int32).toNatClampNeg v3
    rhck (Γ.2.2.1 (M.2.2 v0 4) = 17) <|
    rhck (0 ≤ (M11.1 v0 0).toInt ∧ (M11.1 v0 0).toInt < (Γ.2.2.2 (M.2.2 v0 4) : Nat)) <|
    let M14 := rhsi M11 (M.2.2 v0 4) (M11.1 v0 0 : Int32).toNatClampNeg (vp_nar .boolean v4)
    rhck (Γ.2.2.1 (M.2.2 v0 5) = 15) <|
    rhck (0 ≤ (M14.1 v0 0).toInt ∧ (M14.1 v0 0).toInt < (Γ.2.2.2 (M.2.2 v0 5) : Nat)) <|
    let M17 := rhsi M14 (M.2.2 v0 5) (M14.1 v0 0 : Int32).toNatClampNeg v5
    rhck (Γ.2.2.1 (M.2.2 v0 6) = 15) <|
    rhck (0 ≤ (M17.1 v0 0).toInt ∧ (M17.1 v0 0).toInt < (Γ.2.2.2 (M.2.2 v0 6) : Nat)) <|
    let M20 := rhsi M17 (M.2.2 v0 6) (M17.1 v0 0 : Int32).toNatClampNeg ((-1))
    let M21 := rhsi M20 v0 0 ((M20.1 v0 0) + 1)
    some (((M21.1 v0 0) - 1, M21)))
  else
    some (((-1), M))
set_option maxHeartbeats 4000000 in
set_option maxRecDepth 100000 in
theorem b_X6_add {E : rhE} {Γ : rhG} : ∀ (M : rhM) (v0 : Nat) (v1 : Int32) (v2 : Int32) (v3 : Int32) (v4 : Int32) (v5 : Int32), rhF E 1 6 yX6_add cX6_add (some .int) Γ (rhe1I Γ) (f_X6_add Γ M v0 v1 v2 v3 v4 v5) 0 [(0, rhR v0), (1, rhI v1), (2, rhI v2), (3, rhI v3), (4, rhI v4), (5, rhI v5)] [] Γ M := by
  intro M v0 v1 v2 v3 v4 v5
  rw [f_X6_add]
  refine rhF.aload_n (pc := 0) dX6_add_0 0 rfl ?_
  refine rhF.ck (fun h1 => ?_)
  refine rhF.get (pc := 1) (rhI _) dX6_add_1 fl_X6_56 h1 rfl ?_
  refine rhF.bipush (pc := 4) (v := 20) dX6_add_4 (by decide) ?_
  refine rhF.icmp_lt (pc := 6) 11 dX6_add_6 (by decide) (fun h2 => ?_) (fun h2 => ?_)
  · refine rhF.aload_n (pc := 11) dX6_add_11 0 rfl ?_
    refine rhF.get (pc := 12) (rhR _) dX6_add_12 fl_X6_11 h1 rfl ?_
    refine rhF.aload_n (pc := 15) dX6_add_15 0 rfl ?_
    refine rhF.get (pc := 16) (rhI _) dX6_add_16 fl_X6_56 h1 rfl ?_
    refine rhF.iload_n (pc := 19) dX6_add_19 1 rfl ?_
    refine rhF.ck (fun h3 => ?_)
    refine rhF.ck (fun h4 => ?_)
    refine rhF.iast (pc := 20) dX6_add_20 h3 h4 ?_
    refine rhF.aload_n (pc := 21) dX6_add_21 0 rfl ?_
    refine rhF.get (pc := 22) (rhR _) dX6_add_22 fl_X6_15 h1 rfl ?_
    refine rhF.aload_n (pc := 25) dX6_add_25 0 rfl ?_
    refine rhF.get (pc := 26) (rhI _) dX6_add_26 fl_X6_56 h1 rfl ?_
    refine rhF.iload_n (pc := 29) dX6_add_29 2 rfl ?_
    refine rhF.ck (fun h6 => ?_)
    refine rhF.ck (fun h7 => ?_)
    refine rhF.iast (pc := 30) dX6_add_30 h6 h7 ?_
    refine rhF.aload_n (pc := 31) dX6_add_31 0 rfl ?_
    refine rhF.get (pc := 32) (rhR _) dX6_add_32 fl_X6_18 h1 rfl ?_
    refine rhF.aload_n (pc := 35) dX6_add_35 0 rfl ?_
    refine rhF.get (pc := 36) (rhI _) dX6_add_36 fl_X6_56 h1 rfl ?_
    refine rhF.iload_n (pc := 39) dX6_add_39 3 rfl ?_
    refine rhF.ck (fun h9 => ?_)
    refine rhF.ck (fun h10 => ?_)
    refine rhF.iast (pc := 40) dX6_add_40 h9 h10 ?_
    refine rhF.aload_n (pc := 41) dX6_add_41 0 rfl ?_
    refine rhF.get (pc := 42) (rhR _) dX6_add_42 fl_X6_21 h1 rfl ?_
    refine rhF.aload_n (pc := 45) dX6_add_45 0 rfl ?_
    refine rhF.get (pc := 46) (rhI _) dX6_add_46 fl_X6_56 h1 rfl ?_
    refine rhF.iload (pc := 49) dX6_add_49 4 rfl ?_
    refine rhF.ck (fun h12 => ?_)
    refine rhF.ck (fun h13 => ?_)
    refine rhF.zast (pc := 51) dX6_add_51 h12 h13 ?_
    refine rhF.aload_n (pc := 52) dX6_add_52 0 rfl ?_
    refine rhF.get (pc := 53) (rhR _) dX6_add_53 fl_X6_25 h1 rfl ?_
    refine rhF.aload_n (pc := 56) dX6_add_56 0 rfl ?_
    refine rhF.get (pc := 57) (rhI _) dX6_add_57 fl_X6_56 h1 rfl ?_
    refine rhF.iload (pc := 60) dX6_add_60 5 rfl ?_
    refine rhF.ck (fun h15 => ?_)
    refine rhF.ck (fun h16 => ?_)
    refine rhF.iast (pc := 62) dX6_add_62 h15 h16 ?_
    refine rhF.aload_n (pc := 63) dX6_add_63 0 rfl ?_
    refine rhF.get (pc := 64) (rhR _) dX6_add_64 fl_X6_28 h1 rfl ?_
    refine rhF.aload_n (pc := 67) dX6_add_67 0 rfl ?_
    refine rhF.get (pc := 68) (rhI _) dX6_add_68 fl_X6_56 h1 rfl ?_
    refine rhF.iconst (pc := 71) (v := (-1)) dX6_add_71 (by decide) ?_
    refine rhF.ck (fun h18 => ?_)
    refine rhF.ck (fun h19 => ?_)
    refine rhF.iast (pc := 72) dX6_add_72 h18 h19 ?_
    refine rhF.aload_n (pc := 73) dX6_add_73 0 rfl ?_
    refine rhF.dupr (pc := 74) dX6_add_74 ?_
    refine rhF.get (pc := 75) (rhI _) dX6_add_75 fl_X6_56 h1 rfl ?_
    refine rhF.iconst (pc := 78) (v := 1) dX6_add_78 (by decide) ?_
    refine rhF.iadd (pc := 79) dX6_add_79 ?_
    refine rhF.puti (pc := 80) dX6_add_80 fl_X6_56 h1 (fun q hq => by cases hq; exact Or.inl rfl) ⟨rfl, rfl⟩ (fun _ => rfl) ?_
    refine rhF.aload_n (pc := 83) dX6_add_83 0 rfl ?_
    refine rhF.get (pc := 84) (rhI _) dX6_add_84 fl_X6_56 h1 rfl ?_
    refine rhF.iconst (pc := 87) (v := 1) dX6_add_87 (by decide) ?_
    refine rhF.isub (pc := 88) dX6_add_88 ?_
    exact rhF.zret (pc := 89) dX6_add_89 rfl rfl rfl
  · refine rhF.iconst (pc := 9) (v := (-1)) dX6_add_9 (by decide) ?_
    exact rhF.zret (pc := 10) dX6_add_10 rfl rfl rfl
theorem c_X6_add (E : rhE) (Γ : rhG) (M : rhM) (v0 : Nat) (v1 : Int32) (v2 : Int32) (v3 : Int32) (v4 : Int32) (v5 : Int32) : ∀ a, f_X6_add Γ M v0 v1 v2 v3 v4 v5 = some a → rhC E 1 yX6_add cX6_add 6 (some .int) [rhR v0, rhI v1, rhI v2, rhI v3, rhI v4, rhI v5] Γ M ((rhe1I Γ) a) := rhF.met (by decide +kernel) (Nat.le_of_ble_eq_true rfl) (b_X6_add M v0 v1 v2 v3 v4 v5)
def f_X6_agrees_74 (k2 : Nat → Nat → Int32 → Int32 → Option (Int32)) (Γ : rhG) (M : rhM) (v0 : Nat) (v1 : Nat) (v2 : Int32) (v3 : Int32) : Option (Int32) :=
  let x4 : Int32 := v3 + 1
  k2 v0 v1 v2 x4
def f_X6_agrees_59 (k74 : Nat → Nat → Int32 → Int32 → Option (Int32)) (Γ : rhG) (M : rhM) (v0 : Nat) (v1 : Nat) (v2 : Int32) (v3 : Int32) (s0 : Int32) : Option (Int32) :=
  rhck (Γ.2.2.1 v0 = 7) <|
  rhck (Γ.2.2.1 (M.2.2 v0 4) = 17) <|
  rhck (0 ≤ (v3).toInt ∧ (v3).toInt < (Γ.2.2.2 (M.2.2 v0 4) : Nat)) <|
  if s0 = (M.1 (M.2.2 v0 4) v3.toNatClampNeg) then
    (k74 v0 v1 v2 v3)
  else
    some 0
def f_X6_agrees_2 (Γ : rhG) (M : rhM) : Nat → Nat → Nat → Int32 → Int32 → Option (Int32)
  | 0, _, _, _, _ => none
  | n + 1, v0, v1, v2, v3 =>
    rhck (Γ.2.2.1 v0 = 7) <|
    if v3 < (M.1 v0 0) then
      (if ((rhus (M.1 v0 10) v3) &&& 1) = 0 then
        (f_X6_agrees_74 (f_X6_agrees_2 Γ M n) Γ M v0 v1 v2 v3)
      else
        rhck (Γ.2.2.1 (M.2.2 v0 1) = 15) <|
        rhck (0 ≤ (v3).toInt ∧ (v3).toInt < (Γ.2.2.2 (M.2.2 v0 1) : Nat)) <|
        if (M.1 (M.2.2 v0 1) v3.toNatClampNeg) = v2 then
          (rhck (Γ.2.2.1 v1 = 8) <|
          rhck (Γ.2.2.1 (M.2.2 v0 3) = 15) <|
          rhck (0 ≤ (v3).toInt ∧ (v3).toInt < (Γ.2.2.2 (M.2.2 v0 3) : Nat)) <|
          rhck (Γ.2.2.1 (M.2.2 v1 4) = 15) <|
          rhck (0 ≤ (M.1 (M.2.2 v0 3) v3.toNatClampNeg).toInt ∧ (M.1 (M.2.2 v0 3) v3.toNatClampNeg).toInt < (Γ.2.2.2 (M.2.2 v1 4) : Nat)) <|
          rhck (Γ.2.2.1 (M.2.2 v0 2) = 15) <|
          rhck (0 ≤ (v3).toInt ∧ (v3).toInt < (Γ.2.2.2 (M.2.2 v0 2) : Nat)) <|
          if ((rhus (M.1 (M.2.2 v1 4) (M.1 (M.2.2 v0 3) v3.toNatClampNeg).toNatClampNeg) (M.1 (M.2.2 v0 2) v3.toNatClampNeg)) &&& 1) = 0 then
            (f_X6_agrees_59 (f_X6_agrees_74 (f_X6_agrees_2 Γ M n) Γ M) Γ M v0 v1 v2 v3 0)
          else
            f_X6_agrees_59 (f_X6_agrees_74 (f_X6_agrees_2 Γ M n) Γ M) Γ M v0 v1 v2 v3 1)
        else
          f_X6_agrees_74 (f_X6_agrees_2 Γ M n) Γ M v0 v1 v2 v3)
    else
      some 1
def f_X6_agrees (Γ : rhG) (M : rhM) (v0 : Nat) (v1 : Nat) (v2 : Int32) : Option (Int32) :=
  f_X6_agrees_2 Γ M rhFU v0 v1 v2 0
set_option maxHeartbeats 4000000 in
set_option maxRecDepth 100000 in
theorem b_X6_agrees_74 {E : rhE} {Γ : rhG} {M : rhM} {k2 : Nat → Nat → Int32 → Int32 → Option (Int32)} (hk2 : ∀ (v0 : Nat) (v1 : Nat) (v2 : Int32) (v3 : Int32), rhF E 1 5 yX6_agrees cX6_agrees (some .boolean) Γ (rhe0I Γ M) (k2 v0 v1 v2 v3) 2 [(0, rhR v0), (1, rhR v1), (2, rhI v2), (3, rhI v3)] [] Γ M) : ∀ (v0 : Nat) (v1 : Nat) (v2 : Int32) (v3 : Int32), rhF E 1 5 yX6_agrees cX6_agrees (some .boolean) Γ (rhe0I Γ M) (f_X6_agrees_74 k2 Γ M v0 v1 v2 v3) 74 [(0, rhR v0), (1, rhR v1), (2, rhI v2), (3, rhI v3)] [] Γ M := by
  intro v0 v1 v2 v3
  rw [f_X6_agrees_74]
  refine rhF.iinc (pc := 74) (L' := [(3, rhI _), (0, rhR _), (1, rhR _), (2, rhI _)]) dX6_agrees_74 3 rfl rfl (by decide) rfl ?_
  refine rhF.goto (pc := 77) 2 dX6_agrees_77 (by decide) ?_
  refine rhF.sub [1, 2, 3, 0] rfl ?_
  exact hk2 _ _ _ _
set_option maxHeartbeats 4000000 in
set_option maxRecDepth 100000 in
theorem b_X6_agrees_59 {E : rhE} {Γ : rhG} {M : rhM} {k74 : Nat → Nat → Int32 → Int32 → Option (Int32)} (hk74 : ∀ (v0 : Nat) (v1 : Nat) (v2 : Int32) (v3 : Int32), rhF E 1 5 yX6_agrees cX6_agrees (some .boolean) Γ (rhe0I Γ M) (k74 v0 v1 v2 v3) 74 [(0, rhR v0), (1, rhR v1), (2, rhI v2), (3, rhI v3)] [] Γ M) : ∀ (v0 : Nat) (v1 : Nat) (v2 : Int32) (v3 : Int32) (s0 : Int32), rhF E 1 5 yX6_agrees cX6_agrees (some .boolean) Γ (rhe0I Γ M) (f_X6_agrees_59 k74 Γ M v0 v1 v2 v3 s0) 59 [(0, rhR v0), (1, rhR v1), (2, rhI v2), (3, rhI v3)] [rhI s0] Γ M := by
  intro v0 v1 v2 v3 s0
  rw [f_X6_agrees_59]
  refine rhF.istore (pc := 59) (L' := [(4, rhI _), (0, rhR _), (1, rhR _), (2, rhI _), (3, rhI _)]) dX6_agrees_59 (by decide) rfl ?_
  refine rhF.iload (pc := 61) dX6_agrees_61 0 rfl ?_
  refine rhF.aload_n (pc := 63) dX6_agrees_63 1 rfl ?_
  refine rhF.ck (fun h16 => ?_)
  refine rhF.get (pc := 64) (rhR _) dX6_agrees_64 fl_X6_21 h16 rfl ?_
  refine rhF.iload_n (pc := 67) dX6_agrees_67 4 rfl ?_
  refine rhF.ck (fun h17 => ?_)
  refine rhF.ck (fun h18 => ?_)
  refine rhF.zald (pc := 68) dX6_agrees_68 h17 h18 ?_
  refine rhF.icmp_eq (pc := 69) 74 dX6_agrees_69 (by decide) (fun h19 => ?_) (fun h19 => ?_)
  · refine rhF.sub [1, 2, 3, 4] rfl ?_
    exact hk74 _ _ _ _
  · refine rhF.iconst (pc := 72) (v := 0) dX6_agrees_72 (by decide) ?_
    exact rhF.zret (pc := 73) dX6_agrees_73 rfl rfl rfl
set_option maxHeartbeats 4000000 in
set_option maxRecDepth 100000 in
theorem b_X6_agrees_2 {E : rhE} {Γ : rhG} {M : rhM} : ∀ (n : Nat) (v0 : Nat) (v1 : Nat) (v2 : Int32) (v3 : Int32), rhF E 1 5 yX6_agrees cX6_agrees (some .boolean) Γ (rhe0I Γ M) (f_X6_agrees_2 Γ M n v0 v1 v2 v3) 2 [(0, rhR v0), (1, rhR v1), (2, rhI v2), (3, rhI v3)] [] Γ M := by
  intro n
  induction n with
  | zero => intro v0 v1 v2 v3; rw [f_X6_agrees_2]; exact rhF.nope
  | succ n ih =>
    intro v0 v1 v2 v3
    rw [f_X6_agrees_2]
    refine rhF.iload_n (pc := 2) dX6_agrees_2 3 rfl ?_
    refine rhF.aload_n (pc := 3) dX6_agrees_3 0 rfl ?_
    refine rhF.ck (fun h1 => ?_)
    refine rhF.get (pc := 4) (rhI _) dX6_agrees_4 fl_X6_56 h1 rfl ?_
    refine rhF.icmp_ge (pc := 7) 80 dX6_agrees_7 (by decide) (fun h2 => ?_) (fun h2 => ?_)
    · refine rhF.aload_n (pc := 10) dX6_agrees_10 0 rfl ?_
      refine rhF.get (pc := 11) (rhI _) dX6_agrees_11 fl_X6_77 h1 rfl ?_
      refine rhF.iload_n (pc := 14) dX6_agrees_14 3 rfl ?_
      refine rhF.iushr (pc := 15) dX6_agrees_15 ?_
      refine rhF.iconst (pc := 16) (v := 1) dX6_agrees_16 (by decide) ?_
      refine rhF.iand (pc := 17) dX6_agrees_17 ?_
      refine rhF.if_eq (pc := 18) 74 dX6_agrees_18 (by decide) (fun h3 => ?_) (fun h3 => ?_)
      · exact (b_X6_agrees_74 ih) _ _ _ _
      · refine rhF.aload_n (pc := 21) dX6_agrees_21 0 rfl ?_
        refine rhF.get (pc := 22) (rhR _) dX6_agrees_22 fl_X6_11 h1 rfl ?_
        refine rhF.iload_n (pc := 25) dX6_agrees_25 3 rfl ?_
        refine rhF.ck (fun h5 => ?_)
        refine rhF.ck (fun h6 => ?_)
        refine rhF.iald (pc := 26) dX6_agrees_26 h5 h6 ?_
        refine rhF.iload_n (pc := 27) dX6_agrees_27 2 rfl ?_
        refine rhF.icmp_ne (pc := 28) 74 dX6_agrees_28 (by decide) (fun h7 => ?_) (fun h7 => ?_)
        · refine rhF.aload_n (pc := 31) dX6_agrees_31 1 rfl ?_
          refine rhF.ck (fun h8 => ?_)
          refine rhF.get (pc := 32) (rhR _) dX6_agrees_32 fl_X6_107 h8 rfl ?_
          refine rhF.aload_n (pc := 35) dX6_agrees_35 0 rfl ?_
          refine rhF.get (pc := 36) (rhR _) dX6_agrees_36 fl_X6_18 h1 rfl ?_
          refine rhF.iload_n (pc := 39) dX6_agrees_39 3 rfl ?_
          refine rhF.ck (fun h9 => ?_)
          refine rhF.ck (fun h10 => ?_)
          refine rhF.iald (pc := 40) dX6_agrees_40 h9 h10 ?_
          refine rhF.ck (fun h11 => ?_)
          refine rhF.ck (fun h12 => ?_)
          refine rhF.iald (pc := 41) dX6_agrees_41 h11 h12 ?_
          refine rhF.aload_n (pc := 42) dX6_agrees_42 0 rfl ?_
          refine rhF.get (pc := 43) (rhR _) dX6_agrees_43 fl_X6_15 h1 rfl ?_
          refine rhF.iload_n (pc := 46) dX6_agrees_46 3 rfl ?_
          refine rhF.ck (fun h13 => ?_)
          refine rhF.ck (fun h14 => ?_)
          refine rhF.iald (pc := 47) dX6_agrees_47 h13 h14 ?_
          refine rhF.iushr (pc := 48) dX6_agrees_48 ?_
          refine rhF.iconst (pc := 49) (v := 1) dX6_agrees_49 (by decide) ?_
          refine rhF.iand (pc := 50) dX6_agrees_50 ?_
          refine rhF.if_eq (pc := 51) 58 dX6_agrees_51 (by decide) (fun h15 => ?_) (fun h15 => ?_)
          · refine rhF.iconst (pc := 58) (v := 0) dX6_agrees_58 (by decide) ?_
            exact (b_X6_agrees_59 (b_X6_agrees_74 ih)) _ _ _ _ _
          · refine rhF.iconst (pc := 54) (v := 1) dX6_agrees_54 (by decide) ?_
            refine rhF.goto (pc := 55) 59 dX6_agrees_55 (by decide) ?_
            exact (b_X6_agrees_59 (b_X6_agrees_74 ih)) _ _ _ _ _
        · exact (b_X6_agrees_74 ih) _ _ _ _
    · refine rhF.iconst (pc := 80) (v := 1) dX6_agrees_80 (by decide) ?_
      exact rhF.zret (pc := 81) dX6_agrees_81 rfl rfl rfl
set_option maxHeartbeats 4000000 in
set_option maxRecDepth 100000 in
theorem b_X6_agrees {E : rhE} {Γ : rhG} {M : rhM} : ∀ (v0 : Nat) (v1 : Nat) (v2 : Int32), rhF E 1 5 yX6_agrees cX6_agrees (some .boolean) Γ (rhe0I Γ M) (f_X6_agrees Γ M v0 v1 v2) 0 [(0, rhR v0), (1, rhR v1), (2, rhI v2)] [] Γ M := by
  intro v0 v1 v2
  rw [f_X6_agrees]
  refine rhF.iconst (pc := 0) (v := 0) dX6_agrees_0 (by decide) ?_
  refine rhF.istore_n (pc := 1) (L' := [(3, rhI _), (0, rhR _), (1, rhR _), (2, rhI _)]) dX6_agrees_1 (by decide) rfl ?_
  refine rhF.sub [1, 2, 3, 0] rfl ?_
  exact (b_X6_agrees_2 rhFU) _ _ _ _
theorem c_X6_agrees (E : rhE) (Γ : rhG) (M : rhM) (v0 : Nat) (v1 : Nat) (v2 : Int32) : ∀ a, f_X6_agrees Γ M v0 v1 v2 = some a → rhC E 1 yX6_agrees cX6_agrees 5 (some .boolean) [rhR v0, rhR v1, rhI v2] Γ M ((rhe0I Γ M) a) := rhF.met (by decide +kernel) (Nat.le_of_ble_eq_true rfl) (b_X6_agrees v0 v1 v2)
def f_X6_clear (Γ : rhG) (M : rhM) (v0 : Nat) : Option (rhM) :=
  rhck (Γ.2.2.1 v0 = 7) <|
  let M2 := rhsi M v0 0 0
  (f_J7_fill_53178 Γ M2 (M.2.2 v0 12) ((-1) : Int32)).bind fun r3 =>
  some r3
set_option maxHeartbeats 4000000 in
set_option maxRecDepth 100000 in
theorem b_X6_clear {E : rhE} {Γ : rhG} : ∀ (M : rhM) (v0 : Nat), rhF E 5 1 yX6_clear cX6_clear none Γ (rhe1U Γ) (f_X6_clear Γ M v0) 0 [(0, rhR v0)] [] Γ M := by
  intro M v0
  rw [f_X6_clear]
  refine rhF.aload_n (pc := 0) dX6_clear_0 0 rfl ?_
  refine rhF.iconst (pc := 1) (v := 0) dX6_clear_1 (by decide) ?_
  refine rhF.ck (fun h1 => ?_)
  refine rhF.puti (pc := 2) dX6_clear_2 fl_X6_56 h1 (fun q hq => by cases hq; exact Or.inl rfl) ⟨rfl, rfl⟩ (fun _ => rfl) ?_
  refine rhF.aload_n (pc := 5) dX6_clear_5 0 rfl ?_
  refine rhF.get (pc := 6) (rhR _) dX6_clear_6 fl_X6_46 h1 rfl ?_
  refine rhF.iconst (pc := 9) (v := (-1)) dX6_clear_9 (by decide) ?_
  refine rhF.callS (pc := 10) (embc := rhe1U _) [rhR _, rhI _] dX6_clear_10 ml_X6_60 ms_J7_fill_53178 (c_J7_fill_53178 _ _ _ _ _) (by decide) (by decide) rfl (Nat.le_of_ble_eq_true rfl) (fun r3 _ => ?_)
  exact rhF.vret (pc := 13) dX6_clear_13 rfl rfl
theorem c_X6_clear (E : rhE) (Γ : rhG) (M : rhM) (v0 : Nat) : ∀ a, f_X6_clear Γ M v0 = some a → rhC E 5 yX6_clear cX6_clear 1 none [rhR v0] Γ M ((rhe1U Γ) a) := rhF.met (by decide +kernel) (Nat.le_of_ble_eq_true rfl) (b_X6_clear M v0)
def f_X6_goOn_94 (g_X6_goOn : rhG → rhM → Nat → Int32 → Option (rhM)) (Γ : rhG) : Nat → rhM → Nat → Int32 → Nat → Int32 → Option (rhM)
  | 0, _, _, _, _, _ => none
  | n + 1, M, v0, v1, v2, v3 =>
    rhck (Γ.2.2.1 v2 = 8) <|
    if v3 < (M.1 v2 5) then
      (rhck (Γ.2.2.1 v0 = 7) <|
      rhck (Γ.2.2.1 (M.2.2 v0 7) = 19) <|
      rhck (0 ≤ (v1 + 1).toInt ∧ (v1 + 1).toInt < (Γ.2.2.2 (M.2.2 v0 7) : Nat)) <|
      rhck (Γ.2.2.1 (M.2.2 v2 6) = 16) <|
      rhck (0 ≤ (v3).toInt ∧ (v3).toInt < (Γ.2.2.2 (M.2.2 v2 6) : Nat)) <|
      rhck (Γ.2.2.1 (M.2.2 (M.2.2 v0 7) (v1 + 1).toNatClampNeg) = 8) <|
      (f_X7_look Γ M (M.2.2 (M.2.2 v0 7) (v1 + 1).toNatClampNeg) (M.2.2 v0 9) (M.2.1 (M.2.2 v2 6) v3.toNatClampNeg)).bind fun r18 =>
      (g_X6_goOn Γ r18 v0 (v1 + 1)).bind fun r19 =>
      let x20 : Int32 := v3 + 1
      f_X6_goOn_94 g_X6_goOn Γ n r19 v0 v1 v2 x20)
    else
      some M
def f_X6_goOn_40 (g_X6_goOn : rhG → rhM → Nat → Int32 → Option (rhM)) (Γ : rhG) : Nat → rhM → Nat → Nat → Int32 → Option (rhM)
  | 0, _, _, _, _ => none
  | n + 1, M, v0, v2, v3 =>
    rhck (Γ.2.2.1 v0 = 7) <|
    rhck (Γ.2.2.1 (M.2.2 v0 9) = 10) <|
    if v3 < (M.1 (M.2.2 v0 9) 0) then
      (rhck (Γ.2.2.1 (M.2.2 v0 14) = 15) <|
      rhck (0 ≤ (((M.1 v0 11) * 5) + v3).toInt ∧ (((M.1 v0 11) * 5) + v3).toInt < (Γ.2.2.2 (M.2.2 v0 14) : Nat)) <|
      rhck (Γ.2.2.1 v2 = 8) <|
      rhck (Γ.2.2.1 (M.2.2 v2 4) = 15) <|
      rhck (0 ≤ (v3).toInt ∧ (v3).toInt < (Γ.2.2.2 (M.2.2 v2 4) : Nat)) <|
      let M32 := rhsi M (M.2.2 v0 14) (((M.1 v0 11) * 5) + v3 : Int32).toNatClampNeg ((M.1 (M.2.2 v0 14) (((M.1 v0 11) * 5) + v3).toNatClampNeg) ||| (M.1 (M.2.2 v2 4) v3.toNatClampNeg))
      let x33 : Int32 := v3 + 1
      f_X6_goOn_40 g_X6_goOn Γ n M32 v0 v2 x33)
    else
      some M
def f_X6_goOn (g_X6_goOn : rhG → rhM → Nat → Int32 → Option (rhM)) (Γ : rhG) (M : rhM) (v0 : Nat) (v1 : Int32) : Option (rhM) :=
  rhck (Γ.2.2.1 v0 = 7) <|
  rhck (Γ.2.2.1 (M.2.2 v0 7) = 19) <|
  rhck (0 ≤ (v1).toInt ∧ (v1).toInt < (Γ.2.2.2 (M.2.2 v0 7) : Nat)) <|
  let x4 := M.2.2 (M.2.2 v0 7) v1.toNatClampNeg
  (f_X6_agrees Γ M v0 x4 v1).bind fun r5 =>
  if r5 = 0 then
    (some M)
  else
    if v1 < (M.1 v0 11) then
      (rhck (Γ.2.2.1 x4 = 8) <|
      (f_X7_listPulls Γ M x4 (M.2.2 v0 9) (M.2.2 v0 8)).bind fun r9 =>
      f_X6_goOn_94 g_X6_goOn Γ rhFU r9 v0 v1 x4 0)
    else
      rhck (Γ.2.2.1 (M.2.2 v0 13) = 15) <|
      rhck (0 ≤ (M.1 v0 11).toInt ∧ (M.1 v0 11).toInt < (Γ.2.2.2 (M.2.2 v0 13) : Nat)) <|
      let M23 := rhsi M (M.2.2 v0 13) (M.1 v0 11 : Int32).toNatClampNeg ((M.1 (M.2.2 v0 13) (M.1 v0 11).toNatClampNeg) + 1)
      f_X6_goOn_40 g_X6_goOn Γ rhFU M23 v0 x4 0
def F_X6_goOn : Nat → (rhG → rhM → Nat → Int32 → Option (rhM))
  | 0 => (fun _ _ _ _ => none)
  | n + 1 => (fun Γ M v0 v1 => f_X6_goOn ((F_X6_goOn n)) Γ M v0 v1)
set_option maxHeartbeats 4000000 in
set_option maxRecDepth 100000 in
theorem b_X6_goOn_94 {E : rhE} {dp : Nat} {g_X6_goOn : rhG → rhM → Nat → Int32 → Option (rhM)} {Γ : rhG} (hg_X6_goOn : ∀ (Γ : rhG) (M : rhM) (v0 : Nat) (v1 : Int32) (a : rhM), g_X6_goOn Γ M v0 v1 = some a → rhC E (9 + dp) yX6_goOn cX6_goOn 4 none [rhR v0, rhI v1] Γ M ((rhe1U Γ) a)) : ∀ (n : Nat) (M : rhM) (v0 : Nat) (v1 : Int32) (v2 : Nat) (v3 : Int32), rhF E (9 + (dp + 1)) 4 yX6_goOn cX6_goOn none Γ (rhe1U Γ) (f_X6_goOn_94 g_X6_goOn Γ n M v0 v1 v2 v3) 94 [(0, rhR v0), (1, rhI v1), (2, rhR v2), (3, rhI v3)] [] Γ M := by
  intro n
  induction n with
  | zero => intro M v0 v1 v2 v3; rw [f_X6_goOn_94]; exact rhF.nope
  | succ n ih =>
    intro M v0 v1 v2 v3
    rw [f_X6_goOn_94]
    refine rhF.iload_n (pc := 94) dX6_goOn_94 3 rfl ?_
    refine rhF.aload_n (pc := 95) dX6_goOn_95 2 rfl ?_
    refine rhF.ck (fun h10 => ?_)
    refine rhF.get (pc := 96) (rhI _) dX6_goOn_96 fl_X6_114 h10 rfl ?_
    refine rhF.icmp_ge (pc := 99) 136 dX6_goOn_99 (by decide) (fun h11 => ?_) (fun h11 => ?_)
    · refine rhF.aload_n (pc := 102) dX6_goOn_102 0 rfl ?_
      refine rhF.ck (fun h12 => ?_)
      refine rhF.get (pc := 103) (rhR _) dX6_goOn_103 fl_X6_33 h12 rfl ?_
      refine rhF.iload_n (pc := 106) dX6_goOn_106 1 rfl ?_
      refine rhF.iconst (pc := 107) (v := 1) dX6_goOn_107 (by decide) ?_
      refine rhF.iadd (pc := 108) dX6_goOn_108 ?_
      refine rhF.ck (fun h13 => ?_)
      refine rhF.ck (fun h14 => ?_)
      refine rhF.aldS (pc := 109) dX6_goOn_109 h13 h14 ?_
      refine rhF.aload_n (pc := 110) dX6_goOn_110 0 rfl ?_
      refine rhF.get (pc := 111) (rhR _) dX6_goOn_111 fl_X6_73 h12 rfl ?_
      refine rhF.aload_n (pc := 114) dX6_goOn_114 2 rfl ?_
      refine rhF.get (pc := 115) (rhR _) dX6_goOn_115 fl_X6_117 h10 rfl ?_
      refine rhF.iload_n (pc := 118) dX6_goOn_118 3 rfl ?_
      refine rhF.ck (fun h15 => ?_)
      refine rhF.ck (fun h16 => ?_)
      refine rhF.lald (pc := 119) dX6_goOn_119 h15 h16 ?_
      refine rhF.ck (fun h17 => ?_)
      refine rhF.callV (pc := 120) (ci := 7) (embc := rhe1U _) [rhR _, rhJ _] dX6_goOn_120 ml_X6_93 mv_X7_look ⟨_, rfl, rfl⟩ h17 (c_X7_look _ _ _ _ _ _) (by omega) (by decide) rfl (Nat.le_of_ble_eq_true rfl) (fun r18 _ => ?_)
      refine rhF.aload_n (pc := 123) dX6_goOn_123 0 rfl ?_
      refine rhF.iload_n (pc := 124) dX6_goOn_124 1 rfl ?_
      refine rhF.iconst (pc := 125) (v := 1) dX6_goOn_125 (by decide) ?_
      refine rhF.iadd (pc := 126) dX6_goOn_126 ?_
      refine rhF.callV (pc := 127) (ci := 6) (embc := rhe1U _) [rhI _] dX6_goOn_127 ml_X6_97 mv_X6_goOn ⟨_, rfl, rfl⟩ h12 (hg_X6_goOn _ _ _ _) (by omega) (by decide) rfl (Nat.le_of_ble_eq_true rfl) (fun r19 _ => ?_)
      refine rhF.iinc (pc := 130) (L' := [(3, rhI _), (0, rhR _), (1, rhI _), (2, rhR _)]) dX6_goOn_130 3 rfl rfl (by decide) rfl ?_
      refine rhF.goto (pc := 133) 94 dX6_goOn_133 (by decide) ?_
      refine rhF.sub [1, 2, 3, 0] rfl ?_
      exact ih _ _ _ _ _
    · exact rhF.vret (pc := 136) dX6_goOn_136 rfl rfl
set_option maxHeartbeats 4000000 in
set_option maxRecDepth 100000 in
theorem b_X6_goOn_40 {E : rhE} {dp : Nat} {g_X6_goOn : rhG → rhM → Nat → Int32 → Option (rhM)} {Γ : rhG} (hg_X6_goOn : ∀ (Γ : rhG) (M : rhM) (v0 : Nat) (v1 : Int32) (a : rhM), g_X6_goOn Γ M v0 v1 = some a → rhC E (9 + dp) yX6_goOn cX6_goOn 4 none [rhR v0, rhI v1] Γ M ((rhe1U Γ) a)) : ∀ (n : Nat) (M : rhM) (v0 : Nat) (v2 : Nat) (v3 : Int32), rhF E (9 + (dp + 1)) 4 yX6_goOn cX6_goOn none Γ (rhe1U Γ) (f_X6_goOn_40 g_X6_goOn Γ n M v0 v2 v3) 40 [(0, rhR v0), (2, rhR v2), (3, rhI v3)] [] Γ M := by
  intro n
  induction n with
  | zero => intro M v0 v2 v3; rw [f_X6_goOn_40]; exact rhF.nope
  | succ n ih =>
    intro M v0 v2 v3
    rw [f_X6_goOn_40]
    refine rhF.iload_n (pc := 40) dX6_goOn_40 2 rfl ?_
    refine rhF.aload_n (pc := 41) dX6_goOn_41 0 rfl ?_
    refine rhF.ck (fun h24 => ?_)
    refine rhF.get (pc := 42) (rhR _) dX6_goOn_42 fl_X6_73 h24 rfl ?_
    refine rhF.ck (fun h25 => ?_)
    refine rhF.get (pc := 45) (rhI _) dX6_goOn_45 fl_X6_104 h25 rfl ?_
    refine rhF.icmp_ge (pc := 48) 79 dX6_goOn_48 (by decide) (fun h26 => ?_) (fun h26 => ?_)
    · refine rhF.aload_n (pc := 51) dX6_goOn_51 0 rfl ?_
      refine rhF.get (pc := 52) (rhR _) dX6_goOn_52 fl_X6_52 h24 rfl ?_
      refine rhF.aload_n (pc := 55) dX6_goOn_55 0 rfl ?_
      refine rhF.get (pc := 56) (rhI _) dX6_goOn_56 fl_X6_80 h24 rfl ?_
      refine rhF.iconst (pc := 59) (v := 5) dX6_goOn_59 (by decide) ?_
      refine rhF.imul (pc := 60) dX6_goOn_60 ?_
      refine rhF.iload_n (pc := 61) dX6_goOn_61 2 rfl ?_
      refine rhF.iadd (pc := 62) dX6_goOn_62 ?_
      refine rhF.dup2ri (pc := 63) dX6_goOn_63 ?_
      refine rhF.ck (fun h27 => ?_)
      refine rhF.ck (fun h28 => ?_)
      refine rhF.iald (pc := 64) dX6_goOn_64 h27 h28 ?_
      refine rhF.aload_n (pc := 65) dX6_goOn_65 1 rfl ?_
      refine rhF.ck (fun h29 => ?_)
      refine rhF.get (pc := 66) (rhR _) dX6_goOn_66 fl_X6_107 h29 rfl ?_
      refine rhF.iload_n (pc := 69) dX6_goOn_69 2 rfl ?_
      refine rhF.ck (fun h30 => ?_)
      refine rhF.ck (fun h31 => ?_)
      refine rhF.iald (pc := 70) dX6_goOn_70 h30 h31 ?_
      refine rhF.ior (pc := 71) dX6_goOn_71 ?_
      refine rhF.iast (pc := 72) dX6_goOn_72 h27 h28 ?_
      refine rhF.iinc (pc := 73) (L' := [(3, rhI _), (0, rhR _), (2, rhR _)]) dX6_goOn_73 2 rfl rfl (by decide) rfl ?_
      refine rhF.goto (pc := 76) 40 dX6_goOn_76 (by decide) ?_
      refine rhF.sub [1, 2, 0] rfl ?_
      exact ih _ _ _ _
    · exact rhF.vret (pc := 79) dX6_goOn_79 rfl rfl
set_option maxHeartbeats 4000000 in
set_option maxRecDepth 100000 in
theorem b_X6_goOn {E : rhE} {dp : Nat} {g_X6_goOn : rhG → rhM → Nat → Int32 → Option (rhM)} {Γ : rhG} (hg_X6_goOn : ∀ (Γ : rhG) (M : rhM) (v0 : Nat) (v1 : Int32) (a : rhM), g_X6_goOn Γ M v0 v1 = some a → rhC E (9 + dp) yX6_goOn cX6_goOn 4 none [rhR v0, rhI v1] Γ M ((rhe1U Γ) a)) : ∀ (M : rhM) (v0 : Nat) (v1 : Int32), rhF E (9 + (dp + 1)) 4 yX6_goOn cX6_goOn none Γ (rhe1U Γ) (f_X6_goOn g_X6_goOn Γ M v0 v1) 0 [(0, rhR v0), (1, rhI v1)] [] Γ M := by
  intro M v0 v1
  rw [f_X6_goOn]
  refine rhF.aload_n (pc := 0) dX6_goOn_0 0 rfl ?_
  refine rhF.ck (fun h1 => ?_)
  refine rhF.get (pc := 1) (rhR _) dX6_goOn_1 fl_X6_33 h1 rfl ?_
  refine rhF.iload_n (pc := 4) dX6_goOn_4 1 rfl ?_
  refine rhF.ck (fun h2 => ?_)
  refine rhF.ck (fun h3 => ?_)
  refine rhF.aldS (pc := 5) dX6_goOn_5 h2 h3 ?_
  refine rhF.astore_n (pc := 6) (L' := [(2, rhR _), (0, rhR _), (1, rhI _)]) dX6_goOn_6 (by decide) rfl ?_
  refine rhF.aload_n (pc := 7) dX6_goOn_7 1 rfl ?_
  refine rhF.aload_n (pc := 8) dX6_goOn_8 0 rfl ?_
  refine rhF.iload_n (pc := 9) dX6_goOn_9 2 rfl ?_
  refine rhF.callV (pc := 10) (ci := 6) (embc := rhe0I _ _) [rhR _, rhI _] dX6_goOn_10 ml_X6_100 mv_X6_agrees ⟨_, rfl, rfl⟩ h1 (c_X6_agrees _ _ _ _ _ _) (by omega) (by decide) rfl (Nat.le_of_ble_eq_true rfl) (fun r5 _ => ?_)
  refine rhF.if_ne (pc := 13) 17 dX6_goOn_13 (by decide) (fun h6 => ?_) (fun h6 => ?_)
  · exact rhF.vret (pc := 16) dX6_goOn_16 rfl rfl
  · refine rhF.iload_n (pc := 17) dX6_goOn_17 2 rfl ?_
    refine rhF.aload_n (pc := 18) dX6_goOn_18 1 rfl ?_
    refine rhF.get (pc := 19) (rhI _) dX6_goOn_19 fl_X6_80 h1 rfl ?_
    refine rhF.icmp_lt (pc := 22) 80 dX6_goOn_22 (by decide) (fun h7 => ?_) (fun h7 => ?_)
    · refine rhF.aload_n (pc := 80) dX6_goOn_80 0 rfl ?_
      refine rhF.aload_n (pc := 81) dX6_goOn_81 1 rfl ?_
      refine rhF.get (pc := 82) (rhR _) dX6_goOn_82 fl_X6_73 h1 rfl ?_
      refine rhF.aload_n (pc := 85) dX6_goOn_85 1 rfl ?_
      refine rhF.get (pc := 86) (rhR _) dX6_goOn_86 fl_X6_42 h1 rfl ?_
      refine rhF.ck (fun h8 => ?_)
      refine rhF.callV (pc := 89) (ci := 7) (embc := rhe1U _) [rhR _, rhR _] dX6_goOn_89 ml_X6_110 mv_X7_listPulls ⟨_, rfl, rfl⟩ h8 (c_X7_listPulls _ _ _ _ _ _) (by omega) (by decide) rfl (Nat.le_of_ble_eq_true rfl) (fun r9 _ => ?_)
      refine rhF.iconst (pc := 92) (v := 0) dX6_goOn_92 (by decide) ?_
      refine rhF.istore_n (pc := 93) (L' := [(3, rhI _), (2, rhR _), (0, rhR _), (1, rhI _)]) dX6_goOn_93 (by decide) rfl ?_
      refine rhF.sub [2, 3, 1, 0] rfl ?_
      exact (b_X6_goOn_94 hg_X6_goOn rhFU) _ _ _ _ _
    · refine rhF.aload_n (pc := 25) dX6_goOn_25 1 rfl ?_
      refine rhF.get (pc := 26) (rhR _) dX6_goOn_26 fl_X6_49 h1 rfl ?_
      refine rhF.aload_n (pc := 29) dX6_goOn_29 1 rfl ?_
      refine rhF.get (pc := 30) (rhI _) dX6_goOn_30 fl_X6_80 h1 rfl ?_
      refine rhF.dup2ri (pc := 33) dX6_goOn_33 ?_
      refine rhF.ck (fun h21 => ?_)
      refine rhF.ck (fun h22 => ?_)
      refine rhF.iald (pc := 34) dX6_goOn_34 h21 h22 ?_
      refine rhF.iconst (pc := 35) (v := 1) dX6_goOn_35 (by decide) ?_
      refine rhF.iadd (pc := 36) dX6_goOn_36 ?_
      refine rhF.iast (pc := 37) dX6_goOn_37 h21 h22 ?_
      refine rhF.iconst (pc := 38) (v := 0) dX6_goOn_38 (by decide) ?_
      refine rhF.istore_n (pc := 39) (L' := [(3, rhI _), (2, rhR _), (0, rhR _), (1, rhI _)]) dX6_goOn_39 (by decide) rfl ?_
      refine rhF.sub [2, 1, 0] rfl ?_
      exact (b_X6_goOn_40 hg_X6_goOn rhFU) _ _ _ _
theorem C_X6_goOn (E : rhE) : ∀ dp : Nat, (∀ (Γ : rhG) (M : rhM) (v0 : Nat) (v1 : Int32) (a : rhM), ((F_X6_goOn dp)) Γ M v0 v1 = some a → rhC E (9 + dp) yX6_goOn cX6_goOn 4 none [rhR v0, rhI v1] Γ M ((rhe1U Γ) a)) := by
  intro dp
  induction dp with
  | zero =>
    exact (fun Γ M v0 v1 a h => by
      have h2 : (none : Option (rhM)) = some a := h
      cases h2)
  | succ dp ih =>
    exact fun Γ M v0 v1 => rhF.met (by decide +kernel) (Nat.le_of_ble_eq_true rfl) (b_X6_goOn (dp := dp) ih M v0 v1)
def h_X6_goOn (dp : Nat) := (F_X6_goOn dp)
theorem c_X6_goOn (E : rhE) (dp : Nat) (Γ : rhG) (M : rhM) (v0 : Nat) (v1 : Int32) : ∀ a, h_X6_goOn dp Γ M v0 v1 = some a → rhC E (9 + dp) yX6_goOn cX6_goOn 4 none [rhR v0, rhI v1] Γ M ((rhe1U Γ) a) := (C_X6_goOn E dp) Γ M v0 v1
def f_X6_setKnownAt_40 (k41 : Nat → Int32 → Int32 → Int32 → Int32 → Int32 → Option (Int32)) (Γ : rhG) (M : rhM) (v0 : Nat) (v1 : Int32) (v2 : Int32) (v3 : Int32) (v4 : Int32) : Option (Int32) :=
  k41 v0 v1 v2 v3 v4 0
def f_X6_setKnownAt_77 (k5 : Nat → Int32 → Int32 → Int32 → Int32 → Option (Int32)) (Γ : rhG) (M : rhM) (v0 : Nat) (v1 : Int32) (v2 : Int32) (v3 : Int32) (v4 : Int32) : Option (Int32) :=
  let x10 : Int32 := v4 + 1
  k5 v0 v1 v2 v3 x10
def f_X6_setKnownAt_41 (k5 : Nat → Int32 → Int32 → Int32 → Int32 → Option (Int32)) (Γ : rhG) (M : rhM) (v0 : Nat) (v1 : Int32) (v2 : Int32) (v3 : Int32) (v4 : Int32) (s0 : Int32) : Option (Int32) :=
  rhck (Γ.2.2.1 v0 = 7) <|
  rhck (Γ.2.2.1 (M.2.2 v0 1) = 15) <|
  rhck (0 ≤ (v4).toInt ∧ (v4).toInt < (Γ.2.2.2 (M.2.2 v0 1) : Nat)) <|
  if v1 < (M.1 (M.2.2 v0 1) v4.toNatClampNeg) then
    (f_X6_setKnownAt_77 k5 Γ M v0 v1 v2 v3 v4)
  else
    rhck (Γ.2.2.1 (M.2.2 v0 5) = 15) <|
    rhck (0 ≤ (v4).toInt ∧ (v4).toInt < (Γ.2.2.2 (M.2.2 v0 5) : Nat)) <|
    if v2 < (M.1 (M.2.2 v0 5) v4.toNatClampNeg) then
      (f_X6_setKnownAt_77 k5 Γ M v0 v1 v2 v3 v4)
    else
      if s0 = 0 then
        (let x15 := v3 ||| (1 <<< (v4 &&& 31))
        f_X6_setKnownAt_77 k5 Γ M v0 v1 v2 x15 v4)
      else
        f_X6_setKnownAt_77 k5 Γ M v0 v1 v2 v3 v4
def f_X6_setKnownAt_5 (Γ : rhG) (M : rhM) : Nat → Nat → Int32 → Int32 → Int32 → Int32 → Option (Int32)
  | 0, _, _, _, _, _ => none
  | n + 1, v0, v1, v2, v3, v4 =>
    rhck (Γ.2.2.1 v0 = 7) <|
    if v4 < (M.1 v0 0) then
      (rhck (Γ.2.2.1 (M.2.2 v0 6) = 15) <|
      rhck (0 ≤ (v4).toInt ∧ (v4).toInt < (Γ.2.2.2 (M.2.2 v0 6) : Nat)) <|
      if (M.1 (M.2.2 v0 6) v4.toNatClampNeg) = ((-1)) then
        (f_X6_setKnownAt_40 (f_X6_setKnownAt_41 (f_X6_setKnownAt_5 Γ M n) Γ M) Γ M v0 v1 v2 v3 v4)
      else
        if v2 < (M.1 (M.2.2 v0 6) v4.toNatClampNeg) then
          (f_X6_setKnownAt_40 (f_X6_setKnownAt_41 (f_X6_setKnownAt_5 Γ M n) Γ M) Γ M v0 v1 v2 v3 v4)
        else
          f_X6_setKnownAt_41 (f_X6_setKnownAt_5 Γ M n) Γ M v0 v1 v2 v3 v4 1)
    else
      some v3
def f_X6_setKnownAt (Γ : rhG) (M : rhM) (v0 : Nat) (v1 : Int32) (v2 : Int32) : Option (Int32) :=
  f_X6_setKnownAt_5 Γ M rhFU v0 v1 v2 0 0
set_option maxHeartbeats 4000000 in
set_option maxRecDepth 100000 in
theorem b_X6_setKnownAt_40 {E : rhE} {Γ : rhG} {M : rhM} {k41 : Nat → Int32 → Int32 → Int32 → Int32 → Int32 → Option (Int32)} (hk41 : ∀ (v0 : Nat) (v1 : Int32) (v2 : Int32) (v3 : Int32) (v4 : Int32) (s0 : Int32), rhF E 1 6 yX6_setKnownAt cX6_setKnownAt (some .int) Γ (rhe0I Γ M) (k41 v0 v1 v2 v3 v4 s0) 41 [(0, rhR v0), (1, rhI v1), (2, rhI v2), (3, rhI v3), (4, rhI v4)] [rhI s0] Γ M) : ∀ (v0 : Nat) (v1 : Int32) (v2 : Int32) (v3 : Int32) (v4 : Int32), rhF E 1 6 yX6_setKnownAt cX6_setKnownAt (some .int) Γ (rhe0I Γ M) (f_X6_setKnownAt_40 k41 Γ M v0 v1 v2 v3 v4) 40 [(0, rhR v0), (1, rhI v1), (2, rhI v2), (3, rhI v3), (4, rhI v4)] [] Γ M := by
  intro v0 v1 v2 v3 v4
  rw [f_X6_setKnownAt_40]
  refine rhF.iconst (pc := 40) (v := 0) dX6_setKnownAt_40 (by decide) ?_
  exact hk41 _ _ _ _ _ _
set_option maxHeartbeats 4000000 in
set_option maxRecDepth 100000 in
theorem b_X6_setKnownAt_77 {E : rhE} {Γ : rhG} {M : rhM} {k5 : Nat → Int32 → Int32 → Int32 → Int32 → Option (Int32)} (hk5 : ∀ (v0 : Nat) (v1 : Int32) (v2 : Int32) (v3 : Int32) (v4 : Int32), rhF E 1 6 yX6_setKnownAt cX6_setKnownAt (some .int) Γ (rhe0I Γ M) (k5 v0 v1 v2 v3 v4) 5 [(0, rhR v0), (1, rhI v1), (2, rhI v2), (3, rhI v3), (4, rhI v4)] [] Γ M) : ∀ (v0 : Nat) (v1 : Int32) (v2 : Int32) (v3 : Int32) (v4 : Int32), rhF E 1 6 yX6_setKnownAt cX6_setKnownAt (some .int) Γ (rhe0I Γ M) (f_X6_setKnownAt_77 k5 Γ M v0 v1 v2 v3 v4) 77 [(0, rhR v0), (1, rhI v1), (2, rhI v2), (3, rhI v3), (4, rhI v4)] [] Γ M := by
  intro v0 v1 v2 v3 v4
  rw [f_X6_setKnownAt_77]
  refine rhF.iinc (pc := 77) (L' := [(4, rhI _), (0, rhR _), (1, rhI _), (2, rhI _), (3, rhI _)]) dX6_setKnownAt_77 4 rfl rfl (by decide) rfl ?_
  refine rhF.goto (pc := 80) 5 dX6_setKnownAt_80 (by decide) ?_
  refine rhF.sub [1, 2, 3, 4, 0] rfl ?_
  exact hk5 _ _ _ _ _
set_option maxHeartbeats 4000000 in
set_option maxRecDepth 100000 in
theorem b_X6_setKnownAt_41 {E : rhE} {Γ : rhG} {M : rhM} {k5 : Nat → Int32 → Int32 → Int32 → Int32 → Option (Int32)} (hk5 : ∀ (v0 : Nat) (v1 : Int32) (v2 : Int32) (v3 : Int32) (v4 : Int32), rhF E 1 6 yX6_setKnownAt cX6_setKnownAt (some .int) Γ (rhe0I Γ M) (k5 v0 v1 v2 v3 v4) 5 [(0, rhR v0), (1, rhI v1), (2, rhI v2), (3, rhI v3), (4, rhI v4)] [] Γ M) : ∀ (v0 : Nat) (v1 : Int32) (v2 : Int32) (v3 : Int32) (v4 : Int32) (s0 : Int32), rhF E 1 6 yX6_setKnownAt cX6_setKnownAt (some .int) Γ (rhe0I Γ M) (f_X6_setKnownAt_41 k5 Γ M v0 v1 v2 v3 v4 s0) 41 [(0, rhR v0), (1, rhI v1), (2, rhI v2), (3, rhI v3), (4, rhI v4)] [rhI s0] Γ M := by
  intro v0 v1 v2 v3 v4 s0
  rw [f_X6_setKnownAt_41]
  refine rhF.istore (pc := 41) (L' := [(5, rhI _), (0, rhR _), (1, rhI _), (2, rhI _), (3, rhI _), (4, rhI _)]) dX6_setKnownAt_41 (by decide) rfl ?_
  refine rhF.aload_n (pc := 43) dX6_setKnownAt_43 1 rfl ?_
  refine rhF.ck (fun h6 => ?_)
  refine rhF.get (pc := 44) (rhR _) dX6_setKnownAt_44 fl_X6_11 h6 rfl ?_
  refine rhF.iload (pc := 47) dX6_setKnownAt_47 5 rfl ?_
  refine rhF.ck (fun h7 => ?_)
  refine rhF.ck (fun h8 => ?_)
  refine rhF.iald (pc := 49) dX6_setKnownAt_49 h7 h8 ?_
  refine rhF.iload_n (pc := 50) dX6_setKnownAt_50 2 rfl ?_
  refine rhF.icmp_gt (pc := 51) 77 dX6_setKnownAt_51 (by decide) (fun h9 => ?_) (fun h9 => ?_)
  · refine rhF.sub [1, 2, 3, 4, 5] rfl ?_
    exact (b_X6_setKnownAt_77 hk5) _ _ _ _ _
  · refine rhF.aload_n (pc := 54) dX6_setKnownAt_54 1 rfl ?_
    refine rhF.get (pc := 55) (rhR _) dX6_setKnownAt_55 fl_X6_25 h6 rfl ?_
    refine rhF.iload (pc := 58) dX6_setKnownAt_58 5 rfl ?_
    refine rhF.ck (fun h11 => ?_)
    refine rhF.ck (fun h12 => ?_)
    refine rhF.iald (pc := 60) dX6_setKnownAt_60 h11 h12 ?_
    refine rhF.iload_n (pc := 61) dX6_setKnownAt_61 3 rfl ?_
    refine rhF.icmp_gt (pc := 62) 77 dX6_setKnownAt_62 (by decide) (fun h13 => ?_) (fun h13 => ?_)
    · refine rhF.sub [1, 2, 3, 4, 5] rfl ?_
      exact (b_X6_setKnownAt_77 hk5) _ _ _ _ _
    · refine rhF.iload (pc := 65) dX6_setKnownAt_65 0 rfl ?_
      refine rhF.if_ne (pc := 67) 77 dX6_setKnownAt_67 (by decide) (fun h14 => ?_) (fun h14 => ?_)
      · refine rhF.iload_n (pc := 70) dX6_setKnownAt_70 4 rfl ?_
        refine rhF.iconst (pc := 71) (v := 1) dX6_setKnownAt_71 (by decide) ?_
        refine rhF.iload (pc := 72) dX6_setKnownAt_72 5 rfl ?_
        refine rhF.ishl (pc := 74) dX6_setKnownAt_74 ?_
        refine rhF.ior (pc := 75) dX6_setKnownAt_75 ?_
        refine rhF.istore_n (pc := 76) (L' := [(3, rhI _), (5, rhI _), (0, rhR _), (1, rhI _), (2, rhI _), (4, rhI _)]) dX6_setKnownAt_76 (by decide) rfl ?_
        refine rhF.sub [2, 3, 4, 0, 5] rfl ?_
        exact (b_X6_setKnownAt_77 hk5) _ _ _ _ _
      · refine rhF.sub [1, 2, 3, 4, 5] rfl ?_
        exact (b_X6_setKnownAt_77 hk5) _ _ _ _ _
set_option maxHeartbeats 4000000 in
set_option maxRecDepth 100000 in
theorem b_X6_setKnownAt_5 {E : rhE} {Γ : rhG} {M : rhM} : ∀ (n : Nat) (v0 : Nat) (v1 : Int32) (v2 : Int32) (v3 : Int32) (v4 : Int32), rhF E 1 6 yX6_setKnownAt cX6_setKnownAt (some .int) Γ (rhe0I Γ M) (f_X6_setKnownAt_5 Γ M n v0 v1 v2 v3 v4) 5 [(0, rhR v0), (1, rhI v1), (2, rhI v2), (3, rhI v3), (4, rhI v4)] [] Γ M := by
  intro n
  induction n with
  | zero => intro v0 v1 v2 v3 v4; rw [f_X6_setKnownAt_5]; exact rhF.nope
  | succ n ih =>
    intro v0 v1 v2 v3 v4
    rw [f_X6_setKnownAt_5]
    refine rhF.iload (pc := 5) dX6_setKnownAt_5 4 rfl ?_
    refine rhF.aload_n (pc := 7) dX6_setKnownAt_7 0 rfl ?_
    refine rhF.ck (fun h1 => ?_)
    refine rhF.get (pc := 8) (rhI _) dX6_setKnownAt_8 fl_X6_56 h1 rfl ?_
    refine rhF.icmp_ge (pc := 11) 83 dX6_setKnownAt_11 (by decide) (fun h2 => ?_) (fun h2 => ?_)
    · refine rhF.aload_n (pc := 14) dX6_setKnownAt_14 0 rfl ?_
      refine rhF.get (pc := 15) (rhR _) dX6_setKnownAt_15 fl_X6_28 h1 rfl ?_
      refine rhF.iload (pc := 18) dX6_setKnownAt_18 4 rfl ?_
      refine rhF.ck (fun h3 => ?_)
      refine rhF.ck (fun h4 => ?_)
      refine rhF.iald (pc := 20) dX6_setKnownAt_20 h3 h4 ?_
      refine rhF.iconst (pc := 21) (v := (-1)) dX6_setKnownAt_21 (by decide) ?_
      refine rhF.icmp_eq (pc := 22) 40 dX6_setKnownAt_22 (by decide) (fun h5 => ?_) (fun h5 => ?_)
      · exact (b_X6_setKnownAt_40 (b_X6_setKnownAt_41 ih)) _ _ _ _ _
      · refine rhF.aload_n (pc := 25) dX6_setKnownAt_25 0 rfl ?_
        refine rhF.get (pc := 26) (rhR _) dX6_setKnownAt_26 fl_X6_28 h1 rfl ?_
        refine rhF.iload (pc := 29) dX6_setKnownAt_29 4 rfl ?_
        refine rhF.iald (pc := 31) dX6_setKnownAt_31 h3 h4 ?_
        refine rhF.iload_n (pc := 32) dX6_setKnownAt_32 2 rfl ?_
        refine rhF.icmp_gt (pc := 33) 40 dX6_setKnownAt_33 (by decide) (fun h16 => ?_) (fun h16 => ?_)
        · exact (b_X6_setKnownAt_40 (b_X6_setKnownAt_41 ih)) _ _ _ _ _
        · refine rhF.iconst (pc := 36) (v := 1) dX6_setKnownAt_36 (by decide) ?_
          refine rhF.goto (pc := 37) 41 dX6_setKnownAt_37 (by decide) ?_
          exact (b_X6_setKnownAt_41 ih) _ _ _ _ _ _
    · refine rhF.iload_n (pc := 83) dX6_setKnownAt_83 3 rfl ?_
      exact rhF.zret (pc := 84) dX6_setKnownAt_84 rfl rfl rfl
set_option maxHeartbeats 4000000 in
set_option maxRecDepth 100000 in
theorem b_X6_setKnownAt {E : rhE} {Γ : rhG} {M : rhM} : ∀ (v0 : Nat) (v1 : Int32) (v2 : Int32), rhF E 1 6 yX6_setKnownAt cX6_setKnownAt (some .int) Γ (rhe0I Γ M) (f_X6_setKnownAt Γ M v0 v1 v2) 0 [(0, rhR v0), (1, rhI v1), (2, rhI v2)] [] Γ M := by
  intro v0 v1 v2
  rw [f_X6_setKnownAt]
  refine rhF.iconst (pc := 0) (v := 0) dX6_setKnownAt_0 (by decide) ?_
  refine rhF.istore_n (pc := 1) (L' := [(3, rhI _), (0, rhR _), (1, rhI _), (2, rhI _)]) dX6_setKnownAt_1 (by decide) rfl ?_
  refine rhF.iconst (pc := 2) (v := 0) dX6_setKnownAt_2 (by decide) ?_
  refine rhF.istore (pc := 3) (L' := [(4, rhI _), (3, rhI _), (0, rhR _), (1, rhI _), (2, rhI _)]) dX6_setKnownAt_3 (by decide) rfl ?_
  refine rhF.sub [2, 3, 4, 1, 0] rfl ?_
  exact (b_X6_setKnownAt_5 rhFU) _ _ _ _ _
theorem c_X6_setKnownAt (E : rhE) (Γ : rhG) (M : rhM) (v0 : Nat) (v1 : Int32) (v2 : Int32) : ∀ a, f_X6_setKnownAt Γ M v0 v1 v2 = some a → rhC E 1 yX6_setKnownAt cX6_setKnownAt 6 (some .int) [rhR v0, rhI v1, rhI v2] Γ M ((rhe0I Γ M) a) := rhF.met (by decide +kernel) (Nat.le_of_ble_eq_true rfl) (b_X6_setKnownAt v0 v1 v2)
def f_X6_count (Γ : rhG) (M : rhM) (v0 : Nat) (v1 : Nat) (v2 : Int32) (v3 : Int32) : Option (rhM) :=
  rhck (Γ.2.2.1 v0 = 7) <|
  (f_X6_setKnownAt Γ M v0 v2 v3).bind fun r2 =>
  rhck (Γ.2.2.1 (M.2.2 v0 12) = 15) <|
  rhck (0 ≤ (v2).toInt ∧ (v2).toInt < (Γ.2.2.2 (M.2.2 v0 12) : Nat)) <|
  if (M.1 (M.2.2 v0 12) v2.toNatClampNeg) = r2 then
    (some M)
  else
    let M6 := rhsi M (M.2.2 v0 12) (v2 : Int32).toNatClampNeg r2
    rhck (Γ.2.2.1 (M.2.2 v0 13) = 15) <|
    rhck (0 ≤ (v2).toInt ∧ (v2).toInt < (Γ.2.2.2 (M.2.2 v0 13) : Nat)) <|
    let M9 := rhsi M6 (M.2.2 v0 13) (v2 : Int32).toNatClampNeg 0
    (f_J7_fill_fda19 Γ M9 (M.2.2 v0 14) (v2 * 5) ((v2 + 1) * 5) (0 : Int32)).bind fun r10 =>
    let M11 := rhsr r10 v0 9 v1
    let M12 := rhsi M11 v0 10 r2
    let M13 := rhsi M12 v0 11 v2
    rhck (Γ.2.2.1 (M11.2.2 v0 8) = 3) <|
    (f_X2_begin Γ M13 (M11.2.2 v0 8) v1).bind fun r15 =>
    rhck (Γ.2.2.1 (r15.2.2 v0 7) = 19) <|
    rhck (0 ≤ (0 : Int32).toInt ∧ (0 : Int32).toInt < (Γ.2.2.2 (r15.2.2 v0 7) : Nat)) <|
    rhck (Γ.2.2.1 v1 = 10) <|
    rhck (Γ.2.2.1 (r15.2.2 (r15.2.2 v0 7) (0 : Int32).toNatClampNeg) = 8) <|
    (f_X7_look Γ r15 (r15.2.2 (r15.2.2 v0 7) (0 : Int32).toNatClampNeg) v1 (r15.2.1 v1 5)).bind fun r20 =>
    (h_X6_goOn rhDP Γ r20 v0 (0 : Int32)).bind fun r21 =>
    some r21
set_option maxHeartbeats 4000000 in
set_option maxRecDepth 100000 in
theorem b_X6_count {E : rhE} {Γ : rhG} : ∀ (M : rhM) (v0 : Nat) (v1 : Nat) (v2 : Int32) (v3 : Int32), rhF E 70 5 yX6_count cX6_count none Γ (rhe1U Γ) (f_X6_count Γ M v0 v1 v2 v3) 0 [(0, rhR v0), (1, rhR v1), (2, rhI v2), (3, rhI v3)] [] Γ M := by
  intro M v0 v1 v2 v3
  rw [f_X6_count]
  refine rhF.aload_n (pc := 0) dX6_count_0 0 rfl ?_
  refine rhF.iload_n (pc := 1) dX6_count_1 2 rfl ?_
  refine rhF.iload_n (pc := 2) dX6_count_2 3 rfl ?_
  refine rhF.ck (fun h1 => ?_)
  refine rhF.callV (pc := 3) (ci := 6) (embc := rhe0I _ _) [rhI _, rhI _] dX6_count_3 ml_X6_66 mv_X6_setKnownAt ⟨_, rfl, rfl⟩ h1 (c_X6_setKnownAt _ _ _ _ _ _) (by decide) (by decide) rfl (Nat.le_of_ble_eq_true rfl) (fun r2 _ => ?_)
  refine rhF.istore (pc := 6) (L' := [(4, rhI _), (0, rhR _), (1, rhR _), (2, rhI _), (3, rhI _)]) dX6_count_6 (by decide) rfl ?_
  refine rhF.aload_n (pc := 8) dX6_count_8 1 rfl ?_
  refine rhF.get (pc := 9) (rhR _) dX6_count_9 fl_X6_46 h1 rfl ?_
  refine rhF.iload_n (pc := 12) dX6_count_12 3 rfl ?_
  refine rhF.ck (fun h3 => ?_)
  refine rhF.ck (fun h4 => ?_)
  refine rhF.iald (pc := 13) dX6_count_13 h3 h4 ?_
  refine rhF.iload (pc := 14) dX6_count_14 0 rfl ?_
  refine rhF.icmp_ne (pc := 16) 20 dX6_count_16 (by decide) (fun h5 => ?_) (fun h5 => ?_)
  · exact rhF.vret (pc := 19) dX6_count_19 rfl rfl
  · refine rhF.aload_n (pc := 20) dX6_count_20 1 rfl ?_
    refine rhF.get (pc := 21) (rhR _) dX6_count_21 fl_X6_46 h1 rfl ?_
    refine rhF.iload_n (pc := 24) dX6_count_24 3 rfl ?_
    refine rhF.iload (pc := 25) dX6_count_25 0 rfl ?_
    refine rhF.iast (pc := 27) dX6_count_27 h3 h4 ?_
    refine rhF.aload_n (pc := 28) dX6_count_28 1 rfl ?_
    refine rhF.get (pc := 29) (rhR _) dX6_count_29 fl_X6_49 h1 rfl ?_
    refine rhF.iload_n (pc := 32) dX6_count_32 3 rfl ?_
    refine rhF.iconst (pc := 33) (v := 0) dX6_count_33 (by decide) ?_
    refine rhF.ck (fun h7 => ?_)
    refine rhF.ck (fun h8 => ?_)
    refine rhF.iast (pc := 34) dX6_count_34 h7 h8 ?_
    refine rhF.aload_n (pc := 35) dX6_count_35 1 rfl ?_
    refine rhF.get (pc := 36) (rhR _) dX6_count_36 fl_X6_52 h1 rfl ?_
    refine rhF.iload_n (pc := 39) dX6_count_39 3 rfl ?_
    refine rhF.iconst (pc := 40) (v := 5) dX6_count_40 (by decide) ?_
    refine rhF.imul (pc := 41) dX6_count_41 ?_
    refine rhF.iload_n (pc := 42) dX6_count_42 3 rfl ?_
    refine rhF.iconst (pc := 43) (v := 1) dX6_count_43 (by decide) ?_
    refine rhF.iadd (pc := 44) dX6_count_44 ?_
    refine rhF.iconst (pc := 45) (v := 5) dX6_count_45 (by decide) ?_
    refine rhF.imul (pc := 46) dX6_count_46 ?_
    refine rhF.iconst (pc := 47) (v := 0) dX6_count_47 (by decide) ?_
    refine rhF.callS (pc := 48) (embc := rhe1U _) [rhR _, rhI _, rhI _, rhI _] dX6_count_48 ml_X6_70 ms_J7_fill_fda19 (c_J7_fill_fda19 _ _ _ _ _ _ _) (by decide) (by decide) rfl (Nat.le_of_ble_eq_true rfl) (fun r10 _ => ?_)
    refine rhF.aload_n (pc := 51) dX6_count_51 1 rfl ?_
    refine rhF.aload_n (pc := 52) dX6_count_52 2 rfl ?_
    refine rhF.putr (pc := 53) dX6_count_53 fl_X6_73 h1 (fun q hq => by cases hq; exact Or.inl rfl) (Or.inl ⟨_, rfl⟩) (fun _ => rfl) ?_
    refine rhF.aload_n (pc := 56) dX6_count_56 1 rfl ?_
    refine rhF.iload (pc := 57) dX6_count_57 0 rfl ?_
    refine rhF.puti (pc := 59) dX6_count_59 fl_X6_77 h1 (fun q hq => by cases hq; exact Or.inl rfl) ⟨rfl, rfl⟩ (fun _ => rfl) ?_
    refine rhF.aload_n (pc := 62) dX6_count_62 1 rfl ?_
    refine rhF.iload_n (pc := 63) dX6_count_63 3 rfl ?_
    refine rhF.puti (pc := 64) dX6_count_64 fl_X6_80 h1 (fun q hq => by cases hq; exact Or.inl rfl) ⟨rfl, rfl⟩ (fun _ => rfl) ?_
    refine rhF.aload_n (pc := 67) dX6_count_67 1 rfl ?_
    refine rhF.get (pc := 68) (rhR _) dX6_count_68 fl_X6_42 h1 rfl ?_
    refine rhF.aload_n (pc := 71) dX6_count_71 2 rfl ?_
    refine rhF.ck (fun h14 => ?_)
    refine rhF.callV (pc := 72) (ci := 2) (embc := rhe1U _) [rhR _] dX6_count_72 ml_X6_83 mv_X2_begin ⟨_, rfl, rfl⟩ h14 (c_X2_begin _ _ _ _ _) (by decide) (by decide) rfl (Nat.le_of_ble_eq_true rfl) (fun r15 _ => ?_)
    refine rhF.aload_n (pc := 75) dX6_count_75 1 rfl ?_
    refine rhF.get (pc := 76) (rhR _) dX6_count_76 fl_X6_33 h1 rfl ?_
    refine rhF.iconst (pc := 79) (v := 0) dX6_count_79 (by decide) ?_
    refine rhF.ck (fun h16 => ?_)
    refine rhF.ck (fun h17 => ?_)
    refine rhF.aldS (pc := 80) dX6_count_80 h16 h17 ?_
    refine rhF.aload_n (pc := 81) dX6_count_81 2 rfl ?_
    refine rhF.aload_n (pc := 82) dX6_count_82 2 rfl ?_
    refine rhF.ck (fun h18 => ?_)
    refine rhF.get (pc := 83) (rhJ _) dX6_count_83 fl_X6_87 h18 rfl ?_
    refine rhF.ck (fun h19 => ?_)
    refine rhF.callV (pc := 86) (ci := 7) (embc := rhe1U _) [rhR _, rhJ _] dX6_count_86 ml_X6_93 mv_X7_look ⟨_, rfl, rfl⟩ h19 (c_X7_look _ _ _ _ _ _) (by decide) (by decide) rfl (Nat.le_of_ble_eq_true rfl) (fun r20 _ => ?_)
    refine rhF.aload_n (pc := 89) dX6_count_89 1 rfl ?_
    refine rhF.iconst (pc := 90) (v := 0) dX6_count_90 (by decide) ?_
    refine rhF.callV (pc := 91) (ci := 6) (embc := rhe1U _) [rhI _] dX6_count_91 ml_X6_97 mv_X6_goOn ⟨_, rfl, rfl⟩ h1 (c_X6_goOn _ rhDP _ _ _ _) (by decide) (by decide) rfl (Nat.le_of_ble_eq_true rfl) (fun r21 _ => ?_)
    exact rhF.vret (pc := 94) dX6_count_94 rfl rfl
theorem c_X6_count (E : rhE) (Γ : rhG) (M : rhM) (v0 : Nat) (v1 : Nat) (v2 : Int32) (v3 : Int32) : ∀ a, f_X6_count Γ M v0 v1 v2 v3 = some a → rhC E 70 yX6_count cX6_count 5 none [rhR v0, rhR v1, rhI v2, rhI v3] Γ M ((rhe1U Γ) a) := rhF.met (by decide +kernel) (Nat.le_of_ble_eq_true rfl) (b_X6_count M v0 v1 v2 v3)
