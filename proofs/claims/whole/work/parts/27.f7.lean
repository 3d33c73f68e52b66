def f_X12_keepTried_2 (k31 : rhM → Nat → Int32 → Option (rhM)) (Γ : rhG) : Nat → rhM → Nat → Int32 → Int32 → Option (rhM)
  | 0, _, _, _, _ => none
  | n + 1, M, v0, v1, v2 =>
    if v2 < 8 then
      (rhck (Γ.2.2.1 v0 = 13) <|
      rhck (Γ.2.2.1 (M.2.2 v0 39) = 15) <|
      rhck (0 ≤ (v2).toInt ∧ (v2).toInt < (Γ.2.2.2 (M.2.2 v0 39) : Nat)) <|
      rhck (Γ.2.2.1 (M.2.2 v0 78) = 15) <|
      rhck (0 ≤ ((8 * v1) + v2).toInt ∧ ((8 * v1) + v2).toInt < (Γ.2.2.2 (M.2.2 v0 78) : Nat)) <|
      let M7 := rhsi M (M.2.2 v0 78) ((8 * v1) + v2 : Int32).toNatClampNeg (M.1 (M.2.2 v0 39) v2.toNatClampNeg)
      let x8 : Int32 := v2 + 1
      f_X12_keepTried_2 k31 Γ n M7 v0 v1 x8)
    else
      k31 M v0 v1
def f_X12_keepTried_33 (Γ : rhG) : Nat → rhM → Nat → Int32 → Int32 → Option (rhM)
  | 0, _, _, _, _ => none
  | n + 1, M, v0, v1, v2 =>
    if v2 < 5 then
      (rhck (Γ.2.2.1 v0 = 13) <|
      rhck (Γ.2.2.1 (M.2.2 v0 40) = 15) <|
      rhck (0 ≤ (v2).toInt ∧ (v2).toInt < (Γ.2.2.2 (M.2.2 v0 40) : Nat)) <|
      rhck (Γ.2.2.1 (M.2.2 v0 79) = 15) <|
      rhck (0 ≤ ((6 * v1) + v2).toInt ∧ ((6 * v1) + v2).toInt < (Γ.2.2.2 (M.2.2 v0 79) : Nat)) <|
      let M15 := rhsi M (M.2.2 v0 79) ((6 * v1) + v2 : Int32).toNatClampNeg (M.1 (M.2.2 v0 40) v2.toNatClampNeg)
      let x16 : Int32 := v2 + 1
      f_X12_keepTried_33 Γ n M15 v0 v1 x16)
    else
      some M
def f_X12_keepTried_31 (Γ : rhG) (M : rhM) (v0 : Nat) (v1 : Int32) : Option (rhM) :=
  f_X12_keepTried_33 Γ rhFU M v0 v1 0
def f_X12_keepTried (Γ : rhG) (M : rhM) (v0 : Nat) (v1 : Int32) : Option (rhM) :=
  f_X12_keepTried_2 (f_X12_keepTried_31 Γ) Γ rhFU M v0 v1 0
set_option maxHeartbeats 4000000 in
set_option maxRecDepth 100000 in
theorem b_X12_keepTried_2 {E : rhE} {Γ : rhG} {k31 : rhM → Nat → Int32 → Option (rhM)} (hk31 : ∀ (M : rhM) (v0 : Nat) (v1 : Int32), rhF E 1 3 yX12_keepTried cX12_keepTried none Γ (rhe1U Γ) (k31 M v0 v1) 31 [(0, rhR v0), (1, rhI v1)] [] Γ M) : ∀ (n : Nat) (M : rhM) (v0 : Nat) (v1 : Int32) (v2 : Int32), rhF E 1 3 yX12_keepTried cX12_keepTried none Γ (rhe1U Γ) (f_X12_keepTried_2 k31 Γ n M v0 v1 v2) 2 [(0, rhR v0), (1, rhI v1), (2, rhI v2)] [] Γ M := by
  intro n
  induction n with
  | zero => intro M v0 v1 v2; rw [f_X12_keepTried_2]; exact rhF.nope
  | succ n ih =>
    intro M v0 v1 v2
    rw [f_X12_keepTried_2]
    refine rhF.iload_n (pc := 2) dX12_keepTried_2 2 rfl ?_
    refine rhF.bipush (pc := 3) (v := 8) dX12_keepTried_3 (by decide) ?_
    refine rhF.icmp_ge (pc := 5) 31 dX12_keepTried_5 (by decide) (fun h1 => ?_) (fun h1 => ?_)
    · refine rhF.aload_n (pc := 8) dX12_keepTried_8 0 rfl ?_
      refine rhF.ck (fun h2 => ?_)
      refine rhF.get (pc := 9) (rhR _) dX12_keepTried_9 fl_X12_178 h2 rfl ?_
      refine rhF.bipush (pc := 12) (v := 8) dX12_keepTried_12 (by decide) ?_
      refine rhF.iload_n (pc := 14) dX12_keepTried_14 1 rfl ?_
      refine rhF.imul (pc := 15) dX12_keepTried_15 ?_
      refine rhF.iload_n (pc := 16) dX12_keepTried_16 2 rfl ?_
      refine rhF.iadd (pc := 17) dX12_keepTried_17 ?_
      refine rhF.aload_n (pc := 18) dX12_keepTried_18 0 rfl ?_
      refine rhF.get (pc := 19) (rhR _) dX12_keepTried_19 fl_X12_92 h2 rfl ?_
      refine rhF.iload_n (pc := 22) dX12_keepTried_22 2 rfl ?_
      refine rhF.ck (fun h3 => ?_)
      refine rhF.ck (fun h4 => ?_)
      refine rhF.iald (pc := 23) dX12_keepTried_23 h3 h4 ?_
      refine rhF.ck (fun h5 => ?_)
      refine rhF.ck (fun h6 => ?_)
      refine rhF.iast (pc := 24) dX12_keepTried_24 h5 h6 ?_
      refine rhF.iinc (pc := 25) (L' := [(2, rhI _), (0, rhR _), (1, rhI _)]) dX12_keepTried_25 2 rfl rfl (by decide) rfl ?_
      refine rhF.goto (pc := 28) 2 dX12_keepTried_28 (by decide) ?_
      refine rhF.sub [1, 2, 0] rfl ?_
      exact ih _ _ _ _
    · refine rhF.sub [0, 1] rfl ?_
      exact hk31 _ _ _
set_option maxHeartbeats 4000000 in
set_option maxRecDepth 100000 in
theorem b_X12_keepTried_33 {E : rhE} {Γ : rhG} : ∀ (n : Nat) (M : rhM) (v0 : Nat) (v1 : Int32) (v2 : Int32), rhF E 1 3 yX12_keepTried cX12_keepTried none Γ (rhe1U Γ) (f_X12_keepTried_33 Γ n M v0 v1 v2) 33 [(0, rhR v0), (1, rhI v1), (2, rhI v2)] [] Γ M := by
  intro n
  induction n with
  | zero => intro M v0 v1 v2; rw [f_X12_keepTried_33]; exact rhF.nope
  | succ n ih =>
    intro M v0 v1 v2
    rw [f_X12_keepTried_33]
    refine rhF.iload_n (pc := 33) dX12_keepTried_33 2 rfl ?_
    refine rhF.iconst (pc := 34) (v := 5) dX12_keepTried_34 (by decide) ?_
    refine rhF.icmp_ge (pc := 35) 61 dX12_keepTried_35 (by decide) (fun h9 => ?_) (fun h9 => ?_)
    · refine rhF.aload_n (pc := 38) dX12_keepTried_38 0 rfl ?_
      refine rhF.ck (fun h10 => ?_)
      refine rhF.get (pc := 39) (rhR _) dX12_keepTried_39 fl_X12_181 h10 rfl ?_
      refine rhF.bipush (pc := 42) (v := 6) dX12_keepTried_42 (by decide) ?_
      refine rhF.iload_n (pc := 44) dX12_keepTried_44 1 rfl ?_
      refine rhF.imul (pc := 45) dX12_keepTried_45 ?_
      refine rhF.iload_n (pc := 46) dX12_keepTried_46 2 rfl ?_
      refine rhF.iadd (pc := 47) dX12_keepTried_47 ?_
      refine rhF.aload_n (pc := 48) dX12_keepTried_48 0 rfl ?_
      refine rhF.get (pc := 49) (rhR _) dX12_keepTried_49 fl_X12_95 h10 rfl ?_
      refine rhF.iload_n (pc := 52) dX12_keepTried_52 2 rfl ?_
      refine rhF.ck (fun h11 => ?_)
      refine rhF.ck (fun h12 => ?_)
      refine rhF.iald (pc := 53) dX12_keepTried_53 h11 h12 ?_
      refine rhF.ck (fun h13 => ?_)
      refine rhF.ck (fun h14 => ?_)
      refine rhF.iast (pc := 54) dX12_keepTried_54 h13 h14 ?_
      refine rhF.iinc (pc := 55) (L' := [(2, rhI _), (0, rhR _), (1, rhI _)]) dX12_keepTried_55 2 rfl rfl (by decide) rfl ?_
      refine rhF.goto (pc := 58) 33 dX12_keepTried_58 (by decide) ?_
      refine rhF.sub [1, 2, 0] rfl ?_
      exact ih _ _ _ _
    · exact rhF.vret (pc := 61) dX12_keepTried_61 rfl rfl
set_option maxHeartbeats 4000000 in
set_option maxRecDepth 100000 in
theorem b_X12_keepTried_31 {E : rhE} {Γ : rhG} : ∀ (M : rhM) (v0 : Nat) (v1 : Int32), rhF E 1 3 yX12_keepTried cX12_keepTried none Γ (rhe1U Γ) (f_X12_keepTried_31 Γ M v0 v1) 31 [(0, rhR v0), (1, rhI v1)] [] Γ M := by
  intro M v0 v1
  rw [f_X12_keepTried_31]
  refine rhF.iconst (pc := 31) (v := 0) dX12_keepTried_31 (by decide) ?_
  refine rhF.istore_n (pc := 32) (L' := [(2, rhI _), (0, rhR _), (1, rhI _)]) dX12_keepTried_32 (by decide) rfl ?_
  refine rhF.sub [1, 2, 0] rfl ?_
  exact (b_X12_keepTried_33 rhFU) _ _ _ _
set_option maxHeartbeats 4000000 in
set_option maxRecDepth 100000 in
theorem b_X12_keepTried {E : rhE} {Γ : rhG} : ∀ (M : rhM) (v0 : Nat) (v1 : Int32), rhF E 1 3 yX12_keepTried cX12_keepTried none Γ (rhe1U Γ) (f_X12_keepTried Γ M v0 v1) 0 [(0, rhR v0), (1, rhI v1)] [] Γ M := by
  intro M v0 v1
  rw [f_X12_keepTried]
  refine rhF.iconst (pc := 0) (v := 0) dX12_keepTried_0 (by decide) ?_
  refine rhF.istore_n (pc := 1) (L' := [(2, rhI _), (0, rhR _), (1, rhI _)]) dX12_keepTried_1 (by decide) rfl ?_
  refine rhF.sub [1, 2, 0] rfl ?_
  exact (b_X12_keepTried_2 (b_X12_keepTried_31) rhFU) _ _ _ _
theorem c_X12_keepTried (E : rhE) (Γ : rhG) (M : rhM) (v0 : Nat) (v1 : Int32) : ∀ a, f_X12_keepTried Γ M v0 v1 = some a → rhC E 1 yX12_keepTried cX12_keepTried 3 none [rhR v0, rhI v1] Γ M ((rhe1U Γ) a) := rhF.met (by decide +kernel) (Nat.le_of_ble_eq_true rfl) (b_X12_keepTried M v0 v1)
def f_X12_meets_2 (Γ : rhG) : Nat → rhM → Nat → Int32 → Option (Int32 × rhM)
  | 0, _, _, _ => none
  | n + 1, M, v0, v1 =>
    rhck (Γ.2.2.1 v0 = 13) <|
    (f_X12_houseMany Γ M v0).bind fun r2 =>
    if v1 < r2 then
      (rhck (Γ.2.2.1 (M.2.2 v0 77) = 15) <|
      rhck (0 ≤ (v1).toInt ∧ (v1).toInt < (Γ.2.2.2 (M.2.2 v0 77) : Nat)) <|
      (f_X12_railOf Γ M v0 v1).bind fun r6 =>
      let M7 := rhsi M (M.2.2 v0 77) (v1 : Int32).toNatClampNeg ((M.1 (M.2.2 v0 77) v1.toNatClampNeg) ||| (1 <<< (r6 &&& 31)))
      let x8 : Int32 := v1 + 1
      f_X12_meets_2 Γ n M7 v0 x8)
    else
      some ((1, M))
def f_X12_meets (Γ : rhG) (M : rhM) (v0 : Nat) : Option (Int32 × rhM) :=
  f_X12_meets_2 Γ rhFU M v0 0
set_option maxHeartbeats 4000000 in
set_option maxRecDepth 100000 in
theorem b_X12_meets_2 {E : rhE} {Γ : rhG} : ∀ (n : Nat) (M : rhM) (v0 : Nat) (v1 : Int32), rhF E 5 2 yX12_meets cX12_meets (some .int) Γ (rhe1I Γ) (f_X12_meets_2 Γ n M v0 v1) 2 [(0, rhR v0), (1, rhI v1)] [] Γ M := by
  intro n
  induction n with
  | zero => intro M v0 v1; rw [f_X12_meets_2]; exact rhF.nope
  | succ n ih =>
    intro M v0 v1
    rw [f_X12_meets_2]
    refine rhF.iload_n (pc := 2) dX12_meets_2 1 rfl ?_
    refine rhF.aload_n (pc := 3) dX12_meets_3 0 rfl ?_
    refine rhF.ck (fun h1 => ?_)
    refine rhF.callV (pc := 4) (ci := 12) (embc := rhe0I _ _) [] dX12_meets_4 ml_X12_419 mv_X12_houseMany ⟨_, rfl, rfl⟩ h1 (c_X12_houseMany _ _ _ _) (by decide) (by decide) rfl (Nat.le_of_ble_eq_true rfl) (fun r2 _ => ?_)
    refine rhF.icmp_ge (pc := 7) 32 dX12_meets_7 (by decide) (fun h3 => ?_) (fun h3 => ?_)
    · refine rhF.aload_n (pc := 10) dX12_meets_10 0 rfl ?_
      refine rhF.get (pc := 11) (rhR _) dX12_meets_11 fl_X12_175 h1 rfl ?_
      refine rhF.iload_n (pc := 14) dX12_meets_14 1 rfl ?_
      refine rhF.dup2ri (pc := 15) dX12_meets_15 ?_
      refine rhF.ck (fun h4 => ?_)
      refine rhF.ck (fun h5 => ?_)
      refine rhF.iald (pc := 16) dX12_meets_16 h4 h5 ?_
      refine rhF.iconst (pc := 17) (v := 1) dX12_meets_17 (by decide) ?_
      refine rhF.aload_n (pc := 18) dX12_meets_18 0 rfl ?_
      refine rhF.iload_n (pc := 19) dX12_meets_19 1 rfl ?_
      refine rhF.callV (pc := 20) (ci := 12) (embc := rhe0I _ _) [rhI _] dX12_meets_20 ml_X12_559 mv_X12_railOf ⟨_, rfl, rfl⟩ h1 (c_X12_railOf _ _ _ _ _) (by decide) (by decide) rfl (Nat.le_of_ble_eq_true rfl) (fun r6 _ => ?_)
      refine rhF.ishl (pc := 23) dX12_meets_23 ?_
      refine rhF.ior (pc := 24) dX12_meets_24 ?_
      refine rhF.iast (pc := 25) dX12_meets_25 h4 h5 ?_
      refine rhF.iinc (pc := 26) (L' := [(1, rhI _), (0, rhR _)]) dX12_meets_26 1 rfl rfl (by decide) rfl ?_
      refine rhF.goto (pc := 29) 2 dX12_meets_29 (by decide) ?_
      refine rhF.sub [1, 0] rfl ?_
      exact ih _ _ _
    · refine rhF.iconst (pc := 32) (v := 1) dX12_meets_32 (by decide) ?_
      exact rhF.zret (pc := 33) dX12_meets_33 rfl rfl rfl
set_option maxHeartbeats 4000000 in
set_option maxRecDepth 100000 in
theorem b_X12_meets {E : rhE} {Γ : rhG} : ∀ (M : rhM) (v0 : Nat), rhF E 5 2 yX12_meets cX12_meets (some .int) Γ (rhe1I Γ) (f_X12_meets Γ M v0) 0 [(0, rhR v0)] [] Γ M := by
  intro M v0
  rw [f_X12_meets]
  refine rhF.iconst (pc := 0) (v := 0) dX12_meets_0 (by decide) ?_
  refine rhF.istore_n (pc := 1) (L' := [(1, rhI _), (0, rhR _)]) dX12_meets_1 (by decide) rfl ?_
  refine rhF.sub [1, 0] rfl ?_
  exact (b_X12_meets_2 rhFU) _ _ _
theorem c_X12_meets (E : rhE) (Γ : rhG) (M : rhM) (v0 : Nat) : ∀ a, f_X12_meets Γ M v0 = some a → rhC E 5 yX12_meets cX12_meets 2 (some .int) [rhR v0] Γ M ((rhe1I Γ) a) := rhF.met (by decide +kernel) (Nat.le_of_ble_eq_true rfl) (b_X12_meets M v0)
def f_X12_rowsOf_2 (k21 : rhM → Nat → Int32 → Int32 → Option (Int32 × rhM)) (Γ : rhG) : Nat → rhM → Nat → Int32 → Int32 → Int32 → Option (Int32 × rhM)
  | 0, _, _, _, _, _ => none
  | n + 1, M, v0, v1, v2, v3 =>
    if v3 < 8 then
      (rhck (Γ.2.2.1 v0 = 13) <|
      rhck (Γ.2.2.1 (M.2.2 v0 77) = 15) <|
      rhck (0 ≤ (v3).toInt ∧ (v3).toInt < (Γ.2.2.2 (M.2.2 v0 77) : Nat)) <|
      let M5 := rhsi M (M.2.2 v0 77) (v3 : Int32).toNatClampNeg 0
      let x6 : Int32 := v3 + 1
      f_X12_rowsOf_2 k21 Γ n M5 v0 v1 v2 x6)
    else
      k21 M v0 v1 v2
def f_X12_rowsOf_62 (Γ : rhG) : Nat → rhM → Nat → Int32 → Int32 → Int32 → Int32 → Option (Int32 × rhM)
  | 0, _, _, _, _, _, _ => none
  | n + 1, M, v0, v1, v2, v3, v4 =>
    if v4 < 0 then
      (some ((v3, M)))
    else
      rhck (Γ.2.2.1 v0 = 13) <|
      rhck (Γ.2.2.1 (M.2.2 v0 80) = 15) <|
      rhck (0 ≤ (v4).toInt ∧ (v4).toInt < (Γ.2.2.2 (M.2.2 v0 80) : Nat)) <|
      (f_X12_nextPull Γ M v0 v4 (M.1 (M.2.2 v0 80) v4.toNatClampNeg)).bind fun r21 =>
      let M22 := rhsi r21.2 (M.2.2 v0 80) (v4 : Int32).toNatClampNeg r21.1
      rhck (Γ.2.2.1 (r21.2.2.2 v0 80) = 15) <|
      rhck (0 ≤ (v4).toInt ∧ (v4).toInt < (Γ.2.2.2 (r21.2.2.2 v0 80) : Nat)) <|
      if (M22.1 (r21.2.2.2 v0 80) v4.toNatClampNeg) < 0 then
        (let x26 : Int32 := v4 + (-1)
        f_X12_rowsOf_62 Γ n M22 v0 v1 v2 v3 x26)
      else
        (f_X12_moves Γ M22 v0 ((M22.1 (r21.2.2.2 v0 80) v4.toNatClampNeg) / 100) (((M22.1 (r21.2.2.2 v0 80) v4.toNatClampNeg) / 10) - ((M22.1 (r21.2.2.2 v0 80) v4.toNatClampNeg) / 10) / 10 * 10) ((M22.1 (r21.2.2.2 v0 80) v4.toNatClampNeg) - (M22.1 (r21.2.2.2 v0 80) v4.toNatClampNeg) / 10 * 10)).bind fun r27 =>
        (f_X12_isSo Γ r27 v0 (v4 + 1) v2).bind fun r28 =>
        if r28 = 0 then
          (f_X12_rowsOf_62 Γ n r27 v0 v1 v2 v3 v4)
        else
          if (v4 + 1) = v1 then
            ((f_X12_meets Γ r27 v0).bind fun r31 =>
            let x32 := v3 + r31.1
            f_X12_rowsOf_62 Γ n r31.2 v0 v1 v2 x32 v4)
          else
            let x33 : Int32 := v4 + 1
            (f_X12_keepTried Γ r27 v0 x33).bind fun r34 =>
            rhck (Γ.2.2.1 (r34.2.2 v0 80) = 15) <|
            rhck (0 ≤ (x33).toInt ∧ (x33).toInt < (Γ.2.2.2 (r34.2.2 v0 80) : Nat)) <|
            let M37 := rhsi r34 (r34.2.2 v0 80) (x33 : Int32).toNatClampNeg ((-1))
            f_X12_rowsOf_62 Γ n M37 v0 v1 v2 v3 x33
def f_X12_rowsOf_21 (Γ : rhG) (M : rhM) (v0 : Nat) (v1 : Int32) (v2 : Int32) : Option (Int32 × rhM) :=
  rhck (Γ.2.2.1 v0 = 13) <|
  (f_X12_layFirst Γ M v0).bind fun r8 =>
  (f_X12_keepTried Γ r8 v0 (0 : Int32)).bind fun r9 =>
  (f_X12_isSo Γ r9 v0 (0 : Int32) v2).bind fun r10 =>
  if r10 = 0 then
    (some ((0, r9)))
  else
    if v1 = 0 then
      ((f_X12_meets Γ r9 v0).bind fun r13 =>
      some ((r13.1, r13.2)))
    else
      rhck (Γ.2.2.1 (r9.2.2 v0 80) = 15) <|
      rhck (0 ≤ (0 : Int32).toInt ∧ (0 : Int32).toInt < (Γ.2.2.2 (r9.2.2 v0 80) : Nat)) <|
      let M16 := rhsi r9 (r9.2.2 v0 80) (0 : Int32).toNatClampNeg ((-1))
      f_X12_rowsOf_62 Γ rhFU M16 v0 v1 v2 0 0
def f_X12_rowsOf (Γ : rhG) (M : rhM) (v0 : Nat) (v1 : Int32) (v2 : Int32) : Option (Int32 × rhM) :=
  f_X12_rowsOf_2 (f_X12_rowsOf_21 Γ) Γ rhFU M v0 v1 v2 0
set_option maxHeartbeats 4000000 in
set_option maxRecDepth 100000 in
theorem b_X12_rowsOf_2 {E : rhE} {Γ : rhG} {k21 : rhM → Nat → Int32 → Int32 → Option (Int32 × rhM)} (hk21 : ∀ (M : rhM) (v0 : Nat) (v1 : Int32) (v2 : Int32), rhF E 10 5 yX12_rowsOf cX12_rowsOf (some .int) Γ (rhe1I Γ) (k21 M v0 v1 v2) 21 [(0, rhR v0), (1, rhI v1), (2, rhI v2)] [] Γ M) : ∀ (n : Nat) (M : rhM) (v0 : Nat) (v1 : Int32) (v2 : Int32) (v3 : Int32), rhF E 10 5 yX12_rowsOf cX12_rowsOf (some .int) Γ (rhe1I Γ) (f_X12_rowsOf_2 k21 Γ n M v0 v1 v2 v3) 2 [(0, rhR v0), (1, rhI v1), (2, rhI v2), (3, rhI v3)] [] Γ M := by
  intro n
  induction n with
  | zero => intro M v0 v1 v2 v3; rw [f_X12_rowsOf_2]; exact rhF.nope
  | succ n ih =>
    intro M v0 v1 v2 v3
    rw [f_X12_rowsOf_2]
    refine rhF.iload_n (pc := 2) dX12_rowsOf_2 3 rfl ?_
    refine rhF.bipush (pc := 3) (v := 8) dX12_rowsOf_3 (by decide) ?_
    refine rhF.icmp_ge (pc := 5) 21 dX12_rowsOf_5 (by decide) (fun h1 => ?_) (fun h1 => ?_)
    · refine rhF.aload_n (pc := 8) dX12_rowsOf_8 0 rfl ?_
      refine rhF.ck (fun h2 => ?_)
      refine rhF.get (pc := 9) (rhR _) dX12_rowsOf_9 fl_X12_175 h2 rfl ?_
      refine rhF.iload_n (pc := 12) dX12_rowsOf_12 3 rfl ?_
      refine rhF.iconst (pc := 13) (v := 0) dX12_rowsOf_13 (by decide) ?_
      refine rhF.ck (fun h3 => ?_)
      refine rhF.ck (fun h4 => ?_)
      refine rhF.iast (pc := 14) dX12_rowsOf_14 h3 h4 ?_
      refine rhF.iinc (pc := 15) (L' := [(3, rhI _), (0, rhR _), (1, rhI _), (2, rhI _)]) dX12_rowsOf_15 3 rfl rfl (by decide) rfl ?_
      refine rhF.goto (pc := 18) 2 dX12_rowsOf_18 (by decide) ?_
      refine rhF.sub [1, 2, 3, 0] rfl ?_
      exact ih _ _ _ _ _
    · refine rhF.sub [0, 1, 2] rfl ?_
      exact hk21 _ _ _ _
set_option maxHeartbeats 4000000 in
set_option maxRecDepth 100000 in
theorem b_X12_rowsOf_62 {E : rhE} {Γ : rhG} : ∀ (n : Nat) (M : rhM) (v0 : Nat) (v1 : Int32) (v2 : Int32) (v3 : Int32) (v4 : Int32), rhF E 10 5 yX12_rowsOf cX12_rowsOf (some .int) Γ (rhe1I Γ) (f_X12_rowsOf_62 Γ n M v0 v1 v2 v3 v4) 62 [(0, rhR v0), (1, rhI v1), (2, rhI v2), (3, rhI v3), (4, rhI v4)] [] Γ M := by
  intro n
  induction n with
  | zero => intro M v0 v1 v2 v3 v4; rw [f_X12_rowsOf_62]; exact rhF.nope
  | succ n ih =>
    intro M v0 v1 v2 v3 v4
    rw [f_X12_rowsOf_62]
    refine rhF.iload (pc := 62) dX12_rowsOf_62 4 rfl ?_
    refine rhF.if_lt (pc := 64) 193 dX12_rowsOf_64 (by decide) (fun h17 => ?_) (fun h17 => ?_)
    · refine rhF.iload_n (pc := 193) dX12_rowsOf_193 3 rfl ?_
      exact rhF.zret (pc := 194) dX12_rowsOf_194 rfl rfl rfl
    · refine rhF.aload_n (pc := 67) dX12_rowsOf_67 0 rfl ?_
      refine rhF.ck (fun h18 => ?_)
      refine rhF.get (pc := 68) (rhR _) dX12_rowsOf_68 fl_X12_184 h18 rfl ?_
      refine rhF.iload (pc := 71) dX12_rowsOf_71 4 rfl ?_
      refine rhF.aload_n (pc := 73) dX12_rowsOf_73 0 rfl ?_
      refine rhF.iload (pc := 74) dX12_rowsOf_74 4 rfl ?_
      refine rhF.aload_n (pc := 76) dX12_rowsOf_76 0 rfl ?_
      refine rhF.get (pc := 77) (rhR _) dX12_rowsOf_77 fl_X12_184 h18 rfl ?_
      refine rhF.iload (pc := 80) dX12_rowsOf_80 4 rfl ?_
      refine rhF.ck (fun h19 => ?_)
      refine rhF.ck (fun h20 => ?_)
      refine rhF.iald (pc := 82) dX12_rowsOf_82 h19 h20 ?_
      refine rhF.callV (pc := 83) (ci := 12) (embc := rhe1I _) [rhI _, rhI _] dX12_rowsOf_83 ml_X12_574 mv_X12_nextPull ⟨_, rfl, rfl⟩ h18 (c_X12_nextPull _ _ _ _ _ _) (by decide) (by decide) rfl (Nat.le_of_ble_eq_true rfl) (fun r21 _ => ?_)
      refine rhF.iast (pc := 86) dX12_rowsOf_86 h19 h20 ?_
      refine rhF.aload_n (pc := 87) dX12_rowsOf_87 0 rfl ?_
      refine rhF.get (pc := 88) (rhR _) dX12_rowsOf_88 fl_X12_184 h18 rfl ?_
      refine rhF.iload (pc := 91) dX12_rowsOf_91 4 rfl ?_
      refine rhF.ck (fun h23 => ?_)
      refine rhF.ck (fun h24 => ?_)
      refine rhF.iald (pc := 93) dX12_rowsOf_93 h23 h24 ?_
      refine rhF.if_ge (pc := 94) 103 dX12_rowsOf_94 (by decide) (fun h25 => ?_) (fun h25 => ?_)
      · refine rhF.iinc (pc := 97) (L' := [(4, rhI _), (0, rhR _), (1, rhI _), (2, rhI _), (3, rhI _)]) dX12_rowsOf_97 4 rfl rfl (by decide) rfl ?_
        refine rhF.goto (pc := 100) 62 dX12_rowsOf_100 (by decide) ?_
        refine rhF.sub [1, 2, 3, 4, 0] rfl ?_
        exact ih _ _ _ _ _ _
      · refine rhF.aload_n (pc := 103) dX12_rowsOf_103 0 rfl ?_
        refine rhF.aload_n (pc := 104) dX12_rowsOf_104 0 rfl ?_
        refine rhF.get (pc := 105) (rhR _) dX12_rowsOf_105 fl_X12_184 h18 rfl ?_
        refine rhF.iload (pc := 108) dX12_rowsOf_108 4 rfl ?_
        refine rhF.iald (pc := 110) dX12_rowsOf_110 h23 h24 ?_
        refine rhF.bipush (pc := 111) (v := 100) dX12_rowsOf_111 (by decide) ?_
        refine rhF.idivc (pc := 113) dX12_rowsOf_113 (by decide) ?_
        refine rhF.aload_n (pc := 114) dX12_rowsOf_114 0 rfl ?_
        refine rhF.get (pc := 115) (rhR _) dX12_rowsOf_115 fl_X12_184 h18 rfl ?_
        refine rhF.iload (pc := 118) dX12_rowsOf_118 4 rfl ?_
        refine rhF.iald (pc := 120) dX12_rowsOf_120 h23 h24 ?_
        refine rhF.bipush (pc := 121) (v := 10) dX12_rowsOf_121 (by decide) ?_
        refine rhF.idivc (pc := 123) dX12_rowsOf_123 (by decide) ?_
        refine rhF.bipush (pc := 124) (v := 10) dX12_rowsOf_124 (by decide) ?_
        refine rhF.iremc (pc := 126) dX12_rowsOf_126 (by decide) ?_
        refine rhF.aload_n (pc := 127) dX12_rowsOf_127 0 rfl ?_
        refine rhF.get (pc := 128) (rhR _) dX12_rowsOf_128 fl_X12_184 h18 rfl ?_
        refine rhF.iload (pc := 131) dX12_rowsOf_131 4 rfl ?_
        refine rhF.iald (pc := 133) dX12_rowsOf_133 h23 h24 ?_
        refine rhF.bipush (pc := 134) (v := 10) dX12_rowsOf_134 (by decide) ?_
        refine rhF.iremc (pc := 136) dX12_rowsOf_136 (by decide) ?_
        refine rhF.callV (pc := 137) (ci := 12) (embc := rhe1U _) [rhI _, rhI _, rhI _] dX12_rowsOf_137 ml_X12_474 mv_X12_moves ⟨_, rfl, rfl⟩ h18 (c_X12_moves _ _ _ _ _ _ _) (by decide) (by decide) rfl (Nat.le_of_ble_eq_true rfl) (fun r27 _ => ?_)
        refine rhF.aload_n (pc := 140) dX12_rowsOf_140 0 rfl ?_
        refine rhF.iload (pc := 141) dX12_rowsOf_141 4 rfl ?_
        refine rhF.iconst (pc := 143) (v := 1) dX12_rowsOf_143 (by decide) ?_
        refine rhF.iadd (pc := 144) dX12_rowsOf_144 ?_
        refine rhF.iload_n (pc := 145) dX12_rowsOf_145 2 rfl ?_
        refine rhF.callV (pc := 146) (ci := 12) (embc := rhe0I _ _) [rhI _, rhI _] dX12_rowsOf_146 ml_X12_568 mv_X12_isSo ⟨_, rfl, rfl⟩ h18 (c_X12_isSo _ _ _ _ _ _) (by decide) (by decide) rfl (Nat.le_of_ble_eq_true rfl) (fun r28 _ => ?_)
        refine rhF.if_ne (pc := 149) 155 dX12_rowsOf_149 (by decide) (fun h29 => ?_) (fun h29 => ?_)
        · refine rhF.goto (pc := 152) 62 dX12_rowsOf_152 (by decide) ?_
          exact ih _ _ _ _ _ _
        · refine rhF.iload (pc := 155) dX12_rowsOf_155 4 rfl ?_
          refine rhF.iconst (pc := 157) (v := 1) dX12_rowsOf_157 (by decide) ?_
          refine rhF.iadd (pc := 158) dX12_rowsOf_158 ?_
          refine rhF.iload_n (pc := 159) dX12_rowsOf_159 1 rfl ?_
          refine rhF.icmp_ne (pc := 160) 173 dX12_rowsOf_160 (by decide) (fun h30 => ?_) (fun h30 => ?_)
          · refine rhF.iload_n (pc := 163) dX12_rowsOf_163 3 rfl ?_
            refine rhF.aload_n (pc := 164) dX12_rowsOf_164 0 rfl ?_
            refine rhF.callV (pc := 165) (ci := 12) (embc := rhe1I _) [] dX12_rowsOf_165 ml_X12_571 mv_X12_meets ⟨_, rfl, rfl⟩ h18 (c_X12_meets _ _ _ _) (by decide) (by decide) rfl (Nat.le_of_ble_eq_true rfl) (fun r31 _ => ?_)
            refine rhF.iadd (pc := 168) dX12_rowsOf_168 ?_
            refine rhF.istore_n (pc := 169) (L' := [(3, rhI _), (0, rhR _), (1, rhI _), (2, rhI _), (4, rhI _)]) dX12_rowsOf_169 (by decide) rfl ?_
            refine rhF.goto (pc := 170) 62 dX12_rowsOf_170 (by decide) ?_
            refine rhF.sub [1, 2, 3, 0, 4] rfl ?_
            exact ih _ _ _ _ _ _
          · refine rhF.iinc (pc := 173) (L' := [(4, rhI _), (0, rhR _), (1, rhI _), (2, rhI _), (3, rhI _)]) dX12_rowsOf_173 4 rfl rfl (by decide) rfl ?_
            refine rhF.aload_n (pc := 176) dX12_rowsOf_176 1 rfl ?_
            refine rhF.iload (pc := 177) dX12_rowsOf_177 0 rfl ?_
            refine rhF.callV (pc := 179) (ci := 12) (embc := rhe1U _) [rhI _] dX12_rowsOf_179 ml_X12_565 mv_X12_keepTried ⟨_, rfl, rfl⟩ h18 (c_X12_keepTried _ _ _ _ _) (by decide) (by decide) rfl (Nat.le_of_ble_eq_true rfl) (fun r34 _ => ?_)
            refine rhF.aload_n (pc := 182) dX12_rowsOf_182 1 rfl ?_
            refine rhF.get (pc := 183) (rhR _) dX12_rowsOf_183 fl_X12_184 h18 rfl ?_
            refine rhF.iload (pc := 186) dX12_rowsOf_186 0 rfl ?_
            refine rhF.iconst (pc := 188) (v := (-1)) dX12_rowsOf_188 (by decide) ?_
            refine rhF.ck (fun h35 => ?_)
            refine rhF.ck (fun h36 => ?_)
            refine rhF.iast (pc := 189) dX12_rowsOf_189 h35 h36 ?_
            refine rhF.goto (pc := 190) 62 dX12_rowsOf_190 (by decide) ?_
            refine rhF.sub [1, 2, 3, 4, 0] rfl ?_
            exact ih _ _ _ _ _ _
set_option maxHeartbeats 4000000 in
set_option maxRecDepth 100000 in
theorem b_X12_rowsOf_21 {E : rhE} {Γ : rhG} : ∀ (M : rhM) (v0 : Nat) (v1 : Int32) (v2 : Int32), rhF E 10 5 yX12_rowsOf cX12_rowsOf (some .int) Γ (rhe1I Γ) (f_X12_rowsOf_21 Γ M v0 v1 v2) 21 [(0, rhR v0), (1, rhI v1), (2, rhI v2)] [] Γ M := by
  intro M v0 v1 v2
  rw [f_X12_rowsOf_21]
  refine rhF.aload_n (pc := 21) dX12_rowsOf_21 0 rfl ?_
  refine rhF.ck (fun h7 => ?_)
  refine rhF.callV (pc := 22) (ci := 12) (embc := rhe1U _) [] dX12_rowsOf_22 ml_X12_452 mv_X12_layFirst ⟨_, rfl, rfl⟩ h7 (c_X12_layFirst _ _ _ _) (by decide) (by decide) rfl (Nat.le_of_ble_eq_true rfl) (fun r8 _ => ?_)
  refine rhF.aload_n (pc := 25) dX12_rowsOf_25 0 rfl ?_
  refine rhF.iconst (pc := 26) (v := 0) dX12_rowsOf_26 (by decide) ?_
  refine rhF.callV (pc := 27) (ci := 12) (embc := rhe1U _) [rhI _] dX12_rowsOf_27 ml_X12_565 mv_X12_keepTried ⟨_, rfl, rfl⟩ h7 (c_X12_keepTried _ _ _ _ _) (by decide) (by decide) rfl (Nat.le_of_ble_eq_true rfl) (fun r9 _ => ?_)
  refine rhF.aload_n (pc := 30) dX12_rowsOf_30 0 rfl ?_
  refine rhF.iconst (pc := 31) (v := 0) dX12_rowsOf_31 (by decide) ?_
  refine rhF.iload_n (pc := 32) dX12_rowsOf_32 2 rfl ?_
  refine rhF.callV (pc := 33) (ci := 12) (embc := rhe0I _ _) [rhI _, rhI _] dX12_rowsOf_33 ml_X12_568 mv_X12_isSo ⟨_, rfl, rfl⟩ h7 (c_X12_isSo _ _ _ _ _ _) (by decide) (by decide) rfl (Nat.le_of_ble_eq_true rfl) (fun r10 _ => ?_)
  refine rhF.if_ne (pc := 36) 41 dX12_rowsOf_36 (by decide) (fun h11 => ?_) (fun h11 => ?_)
  · refine rhF.iconst (pc := 39) (v := 0) dX12_rowsOf_39 (by decide) ?_
    exact rhF.zret (pc := 40) dX12_rowsOf_40 rfl rfl rfl
  · refine rhF.iload_n (pc := 41) dX12_rowsOf_41 1 rfl ?_
    refine rhF.if_ne (pc := 42) 50 dX12_rowsOf_42 (by decide) (fun h12 => ?_) (fun h12 => ?_)
    · refine rhF.aload_n (pc := 45) dX12_rowsOf_45 0 rfl ?_
      refine rhF.callV (pc := 46) (ci := 12) (embc := rhe1I _) [] dX12_rowsOf_46 ml_X12_571 mv_X12_meets ⟨_, rfl, rfl⟩ h7 (c_X12_meets _ _ _ _) (by decide) (by decide) rfl (Nat.le_of_ble_eq_true rfl) (fun r13 _ => ?_)
      exact rhF.zret (pc := 49) dX12_rowsOf_49 rfl rfl rfl
    · refine rhF.iconst (pc := 50) (v := 0) dX12_rowsOf_50 (by decide) ?_
      refine rhF.istore_n (pc := 51) (L' := [(3, rhI _), (0, rhR _), (1, rhI _), (2, rhI _)]) dX12_rowsOf_51 (by decide) rfl ?_
      refine rhF.iconst (pc := 52) (v := 0) dX12_rowsOf_52 (by decide) ?_
      refine rhF.istore (pc := 53) (L' := [(4, rhI _), (3, rhI _), (0, rhR _), (1, rhI _), (2, rhI _)]) dX12_rowsOf_53 (by decide) rfl ?_
      refine rhF.aload_n (pc := 55) dX12_rowsOf_55 2 rfl ?_
      refine rhF.get (pc := 56) (rhR _) dX12_rowsOf_56 fl_X12_184 h7 rfl ?_
      refine rhF.iconst (pc := 59) (v := 0) dX12_rowsOf_59 (by decide) ?_
      refine rhF.iconst (pc := 60) (v := (-1)) dX12_rowsOf_60 (by decide) ?_
      refine rhF.ck (fun h14 => ?_)
      refine rhF.ck (fun h15 => ?_)
      refine rhF.iast (pc := 61) dX12_rowsOf_61 h14 h15 ?_
      refine rhF.sub [2, 3, 4, 1, 0] rfl ?_
      exact (b_X12_rowsOf_62 rhFU) _ _ _ _ _ _
set_option maxHeartbeats 4000000 in
set_option maxRecDepth 100000 in
theorem b_X12_rowsOf {E : rhE} {Γ : rhG} : ∀ (M : rhM) (v0 : Nat) (v1 : Int32) (v2 : Int32), rhF E 10 5 yX12_rowsOf cX12_rowsOf (some .int) Γ (rhe1I Γ) (f_X12_rowsOf Γ M v0 v1 v2) 0 [(0, rhR v0), (1, rhI v1), (2, rhI v2)] [] Γ M := by
  intro M v0 v1 v2
  rw [f_X12_rowsOf]
  refine rhF.iconst (pc := 0) (v := 0) dX12_rowsOf_0 (by decide) ?_
  refine rhF.istore_n (pc := 1) (L' := [(3, rhI _), (0, rhR _), (1, rhI _), (2, rhI _)]) dX12_rowsOf_1 (by decide) rfl ?_
  refine rhF.sub [1, 2, 3, 0] rfl ?_
  exact (b_X12_rowsOf_2 (b_X12_rowsOf_21) rhFU) _ _ _ _ _
theorem c_X12_rowsOf (E : rhE) (Γ : rhG) (M : rhM) (v0 : Nat) (v1 : Int32) (v2 : Int32) : ∀ a, f_X12_rowsOf Γ M v0 v1 v2 = some a → rhC E 10 yX12_rowsOf cX12_rowsOf 5 (some .int) [rhR v0, rhI v1, rhI v2] Γ M ((rhe1I Γ) a) := rhF.met (by decide +kernel) (Nat.le_of_ble_eq_true rfl) (b_X12_rowsOf M v0 v1 v2)
def f_X12_asked (Γ : rhG) (M : rhM) (v0 : Nat) (v1 : Int32) (v2 : Int32) (v3 : Int32) : Option (Int32 × rhM) :=
  rhck (Γ.2.2.1 v0 = 13) <|
  (f_X12_layNow Γ M v0).bind fun r2 =>
  (f_X12_canBe Γ r2 v0 v1 v2 v3).bind fun r3 =>
  if r3 = 0 then
    (some (((-1000000), r2)))
  else
    (f_X12_comes Γ r2 v0 v1 v2 v3).bind fun r5 =>
    some ((r5.1, r5.2))
set_option maxHeartbeats 4000000 in
set_option maxRecDepth 100000 in
theorem b_X12_asked {E : rhE} {Γ : rhG} : ∀ (M : rhM) (v0 : Nat) (v1 : Int32) (v2 : Int32) (v3 : Int32), rhF E 8 4 yX12_asked cX12_asked (some .int) Γ (rhe1I Γ) (f_X12_asked Γ M v0 v1 v2 v3) 0 [(0, rhR v0), (1, rhI v1), (2, rhI v2), (3, rhI v3)] [] Γ M := by
  intro M v0 v1 v2 v3
  rw [f_X12_asked]
  refine rhF.aload_n (pc := 0) dX12_asked_0 0 rfl ?_
  refine rhF.ck (fun h1 => ?_)
  refine rhF.callV (pc := 1) (ci := 12) (embc := rhe1U _) [] dX12_asked_1 ml_X12_467 mv_X12_layNow ⟨_, rfl, rfl⟩ h1 (c_X12_layNow _ _ _ _) (by decide) (by decide) rfl (Nat.le_of_ble_eq_true rfl) (fun r2 _ => ?_)
  refine rhF.aload_n (pc := 4) dX12_asked_4 0 rfl ?_
  refine rhF.iload_n (pc := 5) dX12_asked_5 1 rfl ?_
  refine rhF.iload_n (pc := 6) dX12_asked_6 2 rfl ?_
  refine rhF.iload_n (pc := 7) dX12_asked_7 3 rfl ?_
  refine rhF.callV (pc := 8) (ci := 12) (embc := rhe0I _ _) [rhI _, rhI _, rhI _] dX12_asked_8 ml_X12_446 mv_X12_canBe ⟨_, rfl, rfl⟩ h1 (c_X12_canBe _ _ _ _ _ _ _) (by decide) (by decide) rfl (Nat.le_of_ble_eq_true rfl) (fun r3 _ => ?_)
  refine rhF.if_eq (pc := 11) 24 dX12_asked_11 (by decide) (fun h4 => ?_) (fun h4 => ?_)
  · refine rhF.ldcw (pc := 24) dX12_asked_24 k_X12_470 ?_
    exact rhF.zret (pc := 27) dX12_asked_27 rfl rfl rfl
  · refine rhF.aload_n (pc := 14) dX12_asked_14 0 rfl ?_
    refine rhF.iload_n (pc := 15) dX12_asked_15 1 rfl ?_
    refine rhF.iload_n (pc := 16) dX12_asked_16 2 rfl ?_
    refine rhF.iload_n (pc := 17) dX12_asked_17 3 rfl ?_
    refine rhF.callV (pc := 18) (ci := 12) (embc := rhe1I _) [rhI _, rhI _, rhI _] dX12_asked_18 ml_X12_449 mv_X12_comes ⟨_, rfl, rfl⟩ h1 (c_X12_comes _ _ _ _ _ _ _) (by decide) (by decide) rfl (Nat.le_of_ble_eq_true rfl) (fun r5 _ => ?_)
    refine rhF.goto (pc := 21) 27 dX12_asked_21 (by decide) ?_
    exact rhF.zret (pc := 27) dX12_asked_27 rfl rfl rfl
theorem c_X12_asked (E : rhE) (Γ : rhG) (M : rhM) (v0 : Nat) (v1 : Int32) (v2 : Int32) (v3 : Int32) : ∀ a, f_X12_asked Γ M v0 v1 v2 v3 = some a → rhC E 8 yX12_asked cX12_asked 4 (some .int) [rhR v0, rhI v1, rhI v2, rhI v3] Γ M ((rhe1I Γ) a) := rhF.met (by decide +kernel) (Nat.le_of_ble_eq_true rfl) (b_X12_asked M v0 v1 v2 v3)
def f_X12_lawful (Γ : rhG) (M : rhM) (v0 : Nat) (v1 : Int32) (v2 : Int32) (v3 : Int32) : Option (Int32 × rhM) :=
  rhck (Γ.2.2.1 v0 = 13) <|
  (f_X12_layNow Γ M v0).bind fun r2 =>
  (f_X12_isLawful Γ r2 v0 v1 v2 v3).bind fun r3 =>
  if r3.1 = 0 then
    (some ((0, r3.2)))
  else
    some ((1, r3.2))
set_option maxHeartbeats 4000000 in
set_option maxRecDepth 100000 in
theorem b_X12_lawful {E : rhE} {Γ : rhG} : ∀ (M : rhM) (v0 : Nat) (v1 : Int32) (v2 : Int32) (v3 : Int32), rhF E 9 4 yX12_lawful cX12_lawful (some .int) Γ (rhe1I Γ) (f_X12_lawful Γ M v0 v1 v2 v3) 0 [(0, rhR v0), (1, rhI v1), (2, rhI v2), (3, rhI v3)] [] Γ M := by
  intro M v0 v1 v2 v3
  rw [f_X12_lawful]
  refine rhF.aload_n (pc := 0) dX12_lawful_0 0 rfl ?_
  refine rhF.ck (fun h1 => ?_)
  refine rhF.callV (pc := 1) (ci := 12) (embc := rhe1U _) [] dX12_lawful_1 ml_X12_467 mv_X12_layNow ⟨_, rfl, rfl⟩ h1 (c_X12_layNow _ _ _ _) (by decide) (by decide) rfl (Nat.le_of_ble_eq_true rfl) (fun r2 _ => ?_)
  refine rhF.aload_n (pc := 4) dX12_lawful_4 0 rfl ?_
  refine rhF.iload_n (pc := 5) dX12_lawful_5 1 rfl ?_
  refine rhF.iload_n (pc := 6) dX12_lawful_6 2 rfl ?_
  refine rhF.iload_n (pc := 7) dX12_lawful_7 3 rfl ?_
  refine rhF.callV (pc := 8) (ci := 12) (embc := rhe1I _) [rhI _, rhI _, rhI _] dX12_lawful_8 ml_X12_471 mv_X12_isLawful ⟨_, rfl, rfl⟩ h1 (c_X12_isLawful _ _ _ _ _ _ _) (by decide) (by decide) rfl (Nat.le_of_ble_eq_true rfl) (fun r3 _ => ?_)
  refine rhF.if_eq (pc := 11) 18 dX12_lawful_11 (by decide) (fun h4 => ?_) (fun h4 => ?_)
  · refine rhF.iconst (pc := 18) (v := 0) dX12_lawful_18 (by decide) ?_
    exact rhF.zret (pc := 19) dX12_lawful_19 rfl rfl rfl
  · refine rhF.iconst (pc := 14) (v := 1) dX12_lawful_14 (by decide) ?_
    refine rhF.goto (pc := 15) 19 dX12_lawful_15 (by decide) ?_
    exact rhF.zret (pc := 19) dX12_lawful_19 rfl rfl rfl
theorem c_X12_lawful (E : rhE) (Γ : rhG) (M : rhM) (v0 : Nat) (v1 : Int32) (v2 : Int32) (v3 : Int32) : ∀ a, f_X12_lawful Γ M v0 v1 v2 v3 = some a → rhC E 9 yX12_lawful cX12_lawful 4 (some .int) [rhR v0, rhI v1, rhI v2, rhI v3] Γ M ((rhe1I Γ) a) := rhF.met (by decide +kernel) (Nat.le_of_ble_eq_true rfl) (b_X12_lawful M v0 v1 v2 v3)
def f_X12_about (Γ : rhG) (M : rhM) (v0 : Nat) (v1 : Int32) : Option (Int32) :=
  if v1 = 0 then
    (rhck (Γ.2.2.1 v0 = 13) <|
    (f_X12_houseMany Γ M v0).bind fun r3 =>
    some r3)
  else
  if v1 = 1 then
    (rhck (Γ.2.2.1 v0 = 13) <|
    (f_X12_railMany Γ M v0).bind fun r6 =>
    some r6)
  else
  if v1 = 2 then
    (rhck (Γ.2.2.1 v0 = 13) <|
    some (M.1 v0 48))
  else
  if v1 = 3 then
    (rhck (Γ.2.2.1 v0 = 13) <|
    some (M.1 v0 51))
  else
  if v1 = 4 then
    (rhck (Γ.2.2.1 v0 = 13) <|
    some (M.1 v0 53))
  else
  if v1 = 5 then
    (rhck (Γ.2.2.1 v0 = 13) <|
    some (M.1 v0 82))
  else
  if v1 = 6 then
    (rhck (Γ.2.2.1 v0 = 13) <|
    some (M.1 v0 83))
  else
  if v1 = 7 then
    (rhck (Γ.2.2.1 v0 = 13) <|
    some (M.1 v0 2))
  else
  if v1 = 8 then
    (rhck (Γ.2.2.1 v0 = 13) <|
    some (M.1 v0 49))
  else
  if v1 = 9 then
    (rhck (Γ.2.2.1 v0 = 13) <|
    rhck (Γ.2.2.1 (M.2.2 v0 14) = 15) <|
    rhck (0 ≤ (M.1 v0 34).toInt ∧ (M.1 v0 34).toInt < (Γ.2.2.2 (M.2.2 v0 14) : Nat)) <|
    some (M.1 (M.2.2 v0 14) (M.1 v0 34).toNatClampNeg))
  else
  if v1 = 10 then
    (rhck (Γ.2.2.1 v0 = 13) <|
    some (M.1 v0 66))
  else
  some ((-1))
set_option maxHeartbeats 4000000 in
set_option maxRecDepth 100000 in
theorem b_X12_about {E : rhE} {Γ : rhG} {M : rhM} : ∀ (v0 : Nat) (v1 : Int32), rhF E 5 2 yX12_about cX12_about (some .int) Γ (rhe0I Γ M) (f_X12_about Γ M v0 v1) 0 [(0, rhR v0), (1, rhI v1)] [] Γ M := by
  intro v0 v1
  rw [f_X12_about]
  refine rhF.iload_n (pc := 0) dX12_about_0 1 rfl ?_
  refine rhF.ite (fun h1 => ?_) (fun h1 => ?_)
  · refine rhF.tsIn (pc := 1) 60 0 dX12_about_1 (by rw [h1]; decide) (by decide) rfl (by decide) ?_
    refine rhF.aload_n (pc := 60) dX12_about_60 0 rfl ?_
    refine rhF.ck (fun h2 => ?_)
    refine rhF.callV (pc := 61) (ci := 12) (embc := rhe0I _ _) [] dX12_about_61 ml_X12_419 mv_X12_houseMany ⟨_, rfl, rfl⟩ h2 (c_X12_houseMany _ _ _ _) (by decide) (by decide) rfl (Nat.le_of_ble_eq_true rfl) (fun r3 _ => ?_)
    exact rhF.zret (pc := 64) dX12_about_64 rfl rfl rfl
  · skip
    refine rhF.ite (fun h4 => ?_) (fun h4 => ?_)
    · refine rhF.tsIn (pc := 1) 65 1 dX12_about_1 (by rw [h4]; decide) (by decide) rfl (by decide) ?_
      refine rhF.aload_n (pc := 65) dX12_about_65 0 rfl ?_
      refine rhF.ck (fun h5 => ?_)
      refine rhF.callV (pc := 66) (ci := 12) (embc := rhe0I _ _) [] dX12_about_66 ml_X12_412 mv_X12_railMany ⟨_, rfl, rfl⟩ h5 (c_X12_railMany _ _ _ _) (by decide) (by decide) rfl (Nat.le_of_ble_eq_true rfl) (fun r6 _ => ?_)
      exact rhF.zret (pc := 69) dX12_about_69 rfl rfl rfl
    · skip
      refine rhF.ite (fun h7 => ?_) (fun h7 => ?_)
      · refine rhF.tsIn (pc := 1) 70 2 dX12_about_1 (by rw [h7]; decide) (by decide) rfl (by decide) ?_
        refine rhF.aload_n (pc := 70) dX12_about_70 0 rfl ?_
        refine rhF.ck (fun h8 => ?_)
        refine rhF.get (pc := 71) (rhI _) dX12_about_71 fl_X12_458 h8 rfl ?_
        exact rhF.zret (pc := 74) dX12_about_74 rfl rfl rfl
      · skip
        refine rhF.ite (fun h9 => ?_) (fun h9 => ?_)
        · refine rhF.tsIn (pc := 1) 75 3 dX12_about_1 (by rw [h9]; decide) (by decide) rfl (by decide) ?_
          refine rhF.aload_n (pc := 75) dX12_about_75 0 rfl ?_
          refine rhF.ck (fun h10 => ?_)
          refine rhF.get (pc := 76) (rhI _) dX12_about_76 fl_X12_336 h10 rfl ?_
          exact rhF.zret (pc := 79) dX12_about_79 rfl rfl rfl
        · skip
          refine rhF.ite (fun h11 => ?_) (fun h11 => ?_)
          · refine rhF.tsIn (pc := 1) 80 4 dX12_about_1 (by rw [h11]; decide) (by decide) rfl (by decide) ?_
            refine rhF.aload_n (pc := 80) dX12_about_80 0 rfl ?_
            refine rhF.ck (fun h12 => ?_)
            refine rhF.get (pc := 81) (rhI _) dX12_about_81 fl_X12_339 h12 rfl ?_
            exact rhF.zret (pc := 84) dX12_about_84 rfl rfl rfl
          · skip
            refine rhF.ite (fun h13 => ?_) (fun h13 => ?_)
            · refine rhF.tsIn (pc := 1) 85 5 dX12_about_1 (by rw [h13]; decide) (by decide) rfl (by decide) ?_
              refine rhF.aload_n (pc := 85) dX12_about_85 0 rfl ?_
              refine rhF.ck (fun h14 => ?_)
              refine rhF.get (pc := 86) (rhI _) dX12_about_86 fl_X12_333 h14 rfl ?_
              exact rhF.zret (pc := 89) dX12_about_89 rfl rfl rfl
            · skip
              refine rhF.ite (fun h15 => ?_) (fun h15 => ?_)
              · refine rhF.tsIn (pc := 1) 90 6 dX12_about_1 (by rw [h15]; decide) (by decide) rfl (by decide) ?_
                refine rhF.aload_n (pc := 90) dX12_about_90 0 rfl ?_
                refine rhF.ck (fun h16 => ?_)
                refine rhF.get (pc := 91) (rhI _) dX12_about_91 fl_X12_555 h16 rfl ?_
                exact rhF.zret (pc := 94) dX12_about_94 rfl rfl rfl
              · skip
                refine rhF.ite (fun h17 => ?_) (fun h17 => ?_)
                · refine rhF.tsIn (pc := 1) 95 7 dX12_about_1 (by rw [h17]; decide) (by decide) rfl (by decide) ?_
                  refine rhF.aload_n (pc := 95) dX12_about_95 0 rfl ?_
                  refine rhF.ck (fun h18 => ?_)
                  refine rhF.get (pc := 96) (rhI _) dX12_about_96 fl_X12_324 h18 rfl ?_
                  exact rhF.zret (pc := 99) dX12_about_99 rfl rfl rfl
                · skip
                  refine rhF.ite (fun h19 => ?_) (fun h19 => ?_)
                  · refine rhF.tsIn (pc := 1) 100 8 dX12_about_1 (by rw [h19]; decide) (by decide) rfl (by decide) ?_
                    refine rhF.aload_n (pc := 100) dX12_about_100 0 rfl ?_
                    refine rhF.ck (fun h20 => ?_)
                    refine rhF.get (pc := 101) (rhI _) dX12_about_101 fl_X12_461 h20 rfl ?_
                    exact rhF.zret (pc := 104) dX12_about_104 rfl rfl rfl
                  · skip
                    refine rhF.ite (fun h21 => ?_) (fun h21 => ?_)
                    · refine rhF.tsIn (pc := 1) 105 9 dX12_about_1 (by rw [h21]; decide) (by decide) rfl (by decide) ?_
                      refine rhF.aload_n (pc := 105) dX12_about_105 0 rfl ?_
                      refine rhF.ck (fun h22 => ?_)
                      refine rhF.get (pc := 106) (rhR _) dX12_about_106 fl_X12_30 h22 rfl ?_
                      refine rhF.aload_n (pc := 109) dX12_about_109 0 rfl ?_
                      refine rhF.get (pc := 110) (rhI _) dX12_about_110 fl_X12_327 h22 rfl ?_
                      refine rhF.ck (fun h23 => ?_)
                      refine rhF.ck (fun h24 => ?_)
                      refine rhF.iald (pc := 113) dX12_about_113 h23 h24 ?_
                      exact rhF.zret (pc := 114) dX12_about_114 rfl rfl rfl
                    · skip
                      refine rhF.ite (fun h25 => ?_) (fun h25 => ?_)
                      · refine rhF.tsIn (pc := 1) 115 10 dX12_about_1 (by rw [h25]; decide) (by decide) rfl (by decide) ?_
                        refine rhF.aload_n (pc := 115) dX12_about_115 0 rfl ?_
                        refine rhF.ck (fun h26 => ?_)
                        refine rhF.get (pc := 116) (rhI _) dX12_about_116 fl_X12_342 h26 rfl ?_
                        exact rhF.zret (pc := 119) dX12_about_119 rfl rfl rfl
                      · skip
                        have zh1 := rhne h1 (n := 0) (by decide)
                        have zh4 := rhne h4 (n := 1) (by decide)
                        have zh7 := rhne h7 (n := 2) (by decide)
                        have zh9 := rhne h9 (n := 3) (by decide)
                        have zh11 := rhne h11 (n := 4) (by decide)
                        have zh13 := rhne h13 (n := 5) (by decide)
                        have zh15 := rhne h15 (n := 6) (by decide)
                        have zh17 := rhne h17 (n := 7) (by decide)
                        have zh19 := rhne h19 (n := 8) (by decide)
                        have zh21 := rhne h21 (n := 9) (by decide)
                        have zh25 := rhne h25 (n := 10) (by decide)
                        refine rhF.tsOut (pc := 1) 120 dX12_about_1 (by omega) (by decide) ?_
                        refine rhF.iconst (pc := 120) (v := (-1)) dX12_about_120 (by decide) ?_
                        exact rhF.zret (pc := 121) dX12_about_121 rfl rfl rfl
theorem c_X12_about (E : rhE) (Γ : rhG) (M : rhM) (v0 : Nat) (v1 : Int32) : ∀ a, f_X12_about Γ M v0 v1 = some a → rhC E 5 yX12_about cX12_about 2 (some .int) [rhR v0, rhI v1] Γ M ((rhe0I Γ M) a) := rhF.met (by decide +kernel) (Nat.le_of_ble_eq_true rfl) (b_X12_about v0 v1)
def f_X12_where_28 (k45 : rhM → Nat → Int32 → Int32 → Int32 → Option (Int32 × rhM)) (Γ : rhG) : Nat → rhM → Nat → Int32 → Int32 → Int32 → Int32 → Option (Int32 × rhM)
  | 0, _, _, _, _, _, _ => none
  | n + 1, M, v0, v1, v2, v3, v4 =>
    rhck (Γ.2.2.1 v0 = 13) <|
    rhck (Γ.2.2.1 (M.2.2 v0 39) = 15) <|
    rhck (0 ≤ (v4).toInt ∧ (v4).toInt < (Γ.2.2.2 (M.2.2 v0 39) : Nat)) <|
    if (M.1 (M.2.2 v0 39) v4.toNatClampNeg) = v1 then
      (k45 M v0 v2 v3 v4)
    else
      let x11 : Int32 := v4 + 1
      f_X12_where_28 k45 Γ n M v0 v1 v2 v3 x11
def f_X12_where_45 (k62 : rhM → Nat → Int32 → Int32 → Int32 → Option (Int32 × rhM)) (Γ : rhG) : Nat → rhM → Nat → Int32 → Int32 → Int32 → Option (Int32 × rhM)
  | 0, _, _, _, _, _ => none
  | n + 1, M, v0, v2, v3, v4 =>
    rhck (Γ.2.2.1 v0 = 13) <|
    rhck (Γ.2.2.1 (M.2.2 v0 40) = 15) <|
    rhck (0 ≤ (v3).toInt ∧ (v3).toInt < (Γ.2.2.2 (M.2.2 v0 40) : Nat)) <|
    if v4 < (M.1 (M.2.2 v0 40) v3.toNatClampNeg) then
      (k62 M v0 v2 v3 v4)
    else
      let x16 : Int32 := v3 + 1
      f_X12_where_45 k62 Γ n M v0 v2 x16 v4
def f_X12_where_62 (Γ : rhG) (M : rhM) (v0 : Nat) (v2 : Int32) (v3 : Int32) (v4 : Int32) : Option (Int32 × rhM) :=
  if v2 = 0 then
    (some ((v3, M)))
  else
    rhck (Γ.2.2.1 v0 = 13) <|
    (f_X12_beginOf Γ M v0 v3).bind fun r19 =>
    some ((v4 - r19, M))
def f_X12_where (Γ : rhG) (M : rhM) (v0 : Nat) (v1 : Int32) (v2 : Int32) : Option (Int32 × rhM) :=
  rhck (Γ.2.2.1 v0 = 13) <|
  (f_X12_isHouse Γ M v0 v1).bind fun r2 =>
  if r2 = 0 then
    (some (((-1), M)))
  else
    (f_X12_isIn Γ M v2 (0 : Int32) (1 : Int32)).bind fun r4 =>
    if r4 = 0 then
      (some (((-1), M)))
    else
      (f_X12_layNow Γ M v0).bind fun r6 =>
      f_X12_where_28 (f_X12_where_45 (f_X12_where_62 Γ) Γ rhFU) Γ rhFU r6 v0 v1 v2 0 0
set_option maxHeartbeats 4000000 in
set_option maxRecDepth 100000 in
theorem b_X12_where_28 {E : rhE} {Γ : rhG} {k45 : rhM → Nat → Int32 → Int32 → Int32 → Option (Int32 × rhM)} (hk45 : ∀ (M : rhM) (v0 : Nat) (v2 : Int32) (v3 : Int32) (v4 : Int32), rhF E 6 5 yX12_where cX12_where (some .int) Γ (rhe1I Γ) (k45 M v0 v2 v3 v4) 45 [(0, rhR v0), (2, rhI v2), (3, rhI v3), (4, rhI v4)] [] Γ M) : ∀ (n : Nat) (M : rhM) (v0 : Nat) (v1 : Int32) (v2 : Int32) (v3 : Int32) (v4 : Int32), rhF E 6 5 yX12_where cX12_where (some .int) Γ (rhe1I Γ) (f_X12_where_28 k45 Γ n M v0 v1 v2 v3 v4) 28 [(0, rhR v0), (1, rhI v1), (2, rhI v2), (3, rhI v3), (4, rhI v4)] [] Γ M := by
  intro n
  induction n with
  | zero => intro M v0 v1 v2 v3 v4; rw [f_X12_where_28]; exact rhF.nope
  | succ n ih =>
    intro M v0 v1 v2 v3 v4
    rw [f_X12_where_28]
    refine rhF.aload_n (pc := 28) dX12_where_28 0 rfl ?_
    refine rhF.ck (fun h7 => ?_)
    refine rhF.get (pc := 29) (rhR _) dX12_where_29 fl_X12_92 h7 rfl ?_
    refine rhF.iload (pc := 32) dX12_where_32 4 rfl ?_
    refine rhF.ck (fun h8 => ?_)
    refine rhF.ck (fun h9 => ?_)
    refine rhF.iald (pc := 34) dX12_where_34 h8 h9 ?_
    refine rhF.iload_n (pc := 35) dX12_where_35 1 rfl ?_
    refine rhF.icmp_eq (pc := 36) 45 dX12_where_36 (by decide) (fun h10 => ?_) (fun h10 => ?_)
    · refine rhF.sub [0, 2, 3, 4] rfl ?_
      exact hk45 _ _ _ _ _
    · refine rhF.iinc (pc := 39) (L' := [(4, rhI _), (0, rhR _), (1, rhI _), (2, rhI _), (3, rhI _)]) dX12_where_39 4 rfl rfl (by decide) rfl ?_
      refine rhF.goto (pc := 42) 28 dX12_where_42 (by decide) ?_
      refine rhF.sub [1, 2, 3, 4, 0] rfl ?_
      exact ih _ _ _ _ _ _
set_option maxHeartbeats 4000000 in
set_option maxRecDepth 100000 in
theorem b_X12_where_45 {E : rhE} {Γ : rhG} {k62 : rhM → Nat → Int32 → Int32 → Int32 → Option (Int32 × rhM)} (hk62 : ∀ (M : rhM) (v0 : Nat) (v2 : Int32) (v3 : Int32) (v4 : Int32), rhF E 6 5 yX12_where cX12_where (some .int) Γ (rhe1I Γ) (k62 M v0 v2 v3 v4) 62 [(0, rhR v0), (2, rhI v2), (3, rhI v3), (4, rhI v4)] [] Γ M) : ∀ (n : Nat) (M : rhM) (v0 : Nat) (v2 : Int32) (v3 : Int32) (v4 : Int32), rhF E 6 5 yX12_where cX12_where (some .int) Γ (rhe1I Γ) (f_X12_where_45 k62 Γ n M v0 v2 v3 v4) 45 [(0, rhR v0), (2, rhI v2), (3, rhI v3), (4, rhI v4)] [] Γ M := by
  intro n
  induction n with
  | zero => intro M v0 v2 v3 v4; rw [f_X12_where_45]; exact rhF.nope
  | succ n ih =>
    intro M v0 v2 v3 v4
    rw [f_X12_where_45]
    refine rhF.aload_n (pc := 45) dX12_where_45 0 rfl ?_
    refine rhF.ck (fun h12 => ?_)
    refine rhF.get (pc := 46) (rhR _) dX12_where_46 fl_X12_95 h12 rfl ?_
    refine rhF.iload_n (pc := 49) dX12_where_49 2 rfl ?_
    refine rhF.ck (fun h13 => ?_)
    refine rhF.ck (fun h14 => ?_)
    refine rhF.iald (pc := 50) dX12_where_50 h13 h14 ?_
    refine rhF.iload (pc := 51) dX12_where_51 3 rfl ?_
    refine rhF.icmp_gt (pc := 53) 62 dX12_where_53 (by decide) (fun h15 => ?_) (fun h15 => ?_)
    · exact hk62 _ _ _ _ _
    · refine rhF.iinc (pc := 56) (L' := [(3, rhI _), (0, rhR _), (2, rhI _), (4, rhI _)]) dX12_where_56 2 rfl rfl (by decide) rfl ?_
      refine rhF.goto (pc := 59) 45 dX12_where_59 (by decide) ?_
      refine rhF.sub [1, 2, 0, 3] rfl ?_
      exact ih _ _ _ _ _
set_option maxHeartbeats 4000000 in
set_option maxRecDepth 100000 in
theorem b_X12_where_62 {E : rhE} {Γ : rhG} : ∀ (M : rhM) (v0 : Nat) (v2 : Int32) (v3 : Int32) (v4 : Int32), rhF E 6 5 yX12_where cX12_where (some .int) Γ (rhe1I Γ) (f_X12_where_62 Γ M v0 v2 v3 v4) 62 [(0, rhR v0), (2, rhI v2), (3, rhI v3), (4, rhI v4)] [] Γ M := by
  intro M v0 v2 v3 v4
  rw [f_X12_where_62]
  refine rhF.iload_n (pc := 62) dX12_where_62 1 rfl ?_
  refine rhF.if_ne (pc := 63) 70 dX12_where_63 (by decide) (fun h17 => ?_) (fun h17 => ?_)
  · refine rhF.iload_n (pc := 66) dX12_where_66 2 rfl ?_
    refine rhF.goto (pc := 67) 78 dX12_where_67 (by decide) ?_
    exact rhF.zret (pc := 78) dX12_where_78 rfl rfl rfl
  · refine rhF.iload (pc := 70) dX12_where_70 3 rfl ?_
    refine rhF.aload_n (pc := 72) dX12_where_72 0 rfl ?_
    refine rhF.iload_n (pc := 73) dX12_where_73 2 rfl ?_
    refine rhF.ck (fun h18 => ?_)
    refine rhF.callV (pc := 74) (ci := 12) (embc := rhe0I _ _) [rhI _] dX12_where_74 ml_X12_425 mv_X12_beginOf ⟨_, rfl, rfl⟩ h18 (c_X12_beginOf _ _ _ _ _) (by decide) (by decide) rfl (Nat.le_of_ble_eq_true rfl) (fun r19 _ => ?_)
    refine rhF.isub (pc := 77) dX12_where_77 ?_
    exact rhF.zret (pc := 78) dX12_where_78 rfl rfl rfl
set_option maxHeartbeats 4000000 in
set_option maxRecDepth 100000 in
theorem b_X12_where {E : rhE} {Γ : rhG} : ∀ (M : rhM) (v0 : Nat) (v1 : Int32) (v2 : Int32), rhF E 6 5 yX12_where cX12_where (some .int) Γ (rhe1I Γ) (f_X12_where Γ M v0 v1 v2) 0 [(0, rhR v0), (1, rhI v1), (2, rhI v2)] [] Γ M := by
  intro M v0 v1 v2
  rw [f_X12_where]
  refine rhF.aload_n (pc := 0) dX12_where_0 0 rfl ?_
  refine rhF.iload_n (pc := 1) dX12_where_1 1 rfl ?_
  refine rhF.ck (fun h1 => ?_)
  refine rhF.callV (pc := 2) (ci := 12) (embc := rhe0I _ _) [rhI _] dX12_where_2 ml_X12_464 mv_X12_isHouse ⟨_, rfl, rfl⟩ h1 (c_X12_isHouse _ _ _ _ _) (by decide) (by decide) rfl (Nat.le_of_ble_eq_true rfl) (fun r2 _ => ?_)
  refine rhF.if_eq (pc := 5) 17 dX12_where_5 (by decide) (fun h3 => ?_) (fun h3 => ?_)
  · refine rhF.iconst (pc := 17) (v := (-1)) dX12_where_17 (by decide) ?_
    exact rhF.zret (pc := 18) dX12_where_18 rfl rfl rfl
  · refine rhF.iload_n (pc := 8) dX12_where_8 2 rfl ?_
    refine rhF.iconst (pc := 9) (v := 0) dX12_where_9 (by decide) ?_
    refine rhF.iconst (pc := 10) (v := 1) dX12_where_10 (by decide) ?_
    refine rhF.callS (pc := 11) (embc := rhe0I _ _) [rhI _, rhI _, rhI _] dX12_where_11 ml_X12_415 ms_X12_isIn (c_X12_isIn _ _ _ _ _ _) (by decide) (by decide) rfl (Nat.le_of_ble_eq_true rfl) (fun r4 _ => ?_)
    refine rhF.if_ne (pc := 14) 19 dX12_where_14 (by decide) (fun h5 => ?_) (fun h5 => ?_)
    · refine rhF.iconst (pc := 17) (v := (-1)) dX12_where_17 (by decide) ?_
      exact rhF.zret (pc := 18) dX12_where_18 rfl rfl rfl
    · refine rhF.aload_n (pc := 19) dX12_where_19 0 rfl ?_
      refine rhF.callV (pc := 20) (ci := 12) (embc := rhe1U _) [] dX12_where_20 ml_X12_467 mv_X12_layNow ⟨_, rfl, rfl⟩ h1 (c_X12_layNow _ _ _ _) (by decide) (by decide) rfl (Nat.le_of_ble_eq_true rfl) (fun r6 _ => ?_)
      refine rhF.iconst (pc := 23) (v := 0) dX12_where_23 (by decide) ?_
      refine rhF.istore_n (pc := 24) (L' := [(3, rhI _), (0, rhR _), (1, rhI _), (2, rhI _)]) dX12_where_24 (by decide) rfl ?_
      refine rhF.iconst (pc := 25) (v := 0) dX12_where_25 (by decide) ?_
      refine rhF.istore (pc := 26) (L' := [(4, rhI _), (3, rhI _), (0, rhR _), (1, rhI _), (2, rhI _)]) dX12_where_26 (by decide) rfl ?_
      refine rhF.sub [2, 3, 4, 1, 0] rfl ?_
      exact (b_X12_where_28 (b_X12_where_45 (b_X12_where_62) rhFU) rhFU) _ _ _ _ _ _
theorem c_X12_where (E : rhE) (Γ : rhG) (M : rhM) (v0 : Nat) (v1 : Int32) (v2 : Int32) : ∀ a, f_X12_where Γ M v0 v1 v2 = some a → rhC E 6 yX12_where cX12_where 5 (some .int) [rhR v0, rhI v1, rhI v2] Γ M ((rhe1I Γ) a) := rhF.met (by decide +kernel) (Nat.le_of_ble_eq_true rfl) (b_X12_where M v0 v1 v2)
def f_X12_rise_7 (k53 : rhM → Nat → Int32 → Int32 → Option (rhM)) (Γ : rhG) : Nat → rhM → Nat → Int32 → Int32 → Option (rhM)
  | 0, _, _, _, _ => none
  | n + 1, M, v0, v1, v2 =>
    if 0 < v2 then
      (rhck (Γ.2.2.1 v0 = 13) <|
      rhck (Γ.2.2.1 (M.2.2 v0 67) = 15) <|
      rhck (0 ≤ ((v2 - 1) / 2).toInt ∧ ((v2 - 1) / 2).toInt < (Γ.2.2.2 (M.2.2 v0 67) : Nat)) <|
      (f_X12_isBefore Γ M v0 v1 (M.1 (M.2.2 v0 67) ((v2 - 1) / 2).toNatClampNeg)).bind fun r9 =>
      if r9 = 0 then
        (k53 M v0 v1 v2)
      else
        (f_X12_put Γ M v0 v2 (M.1 (M.2.2 v0 67) ((v2 - 1) / 2).toNatClampNeg)).bind fun r11 =>
        let x12 := (v2 - 1) / 2
        f_X12_rise_7 k53 Γ n r11 v0 v1 x12)
    else
      k53 M v0 v1 v2
def f_X12_rise_53 (Γ : rhG) (M : rhM) (v0 : Nat) (v1 : Int32) (v2 : Int32) : Option (rhM) :=
  rhck (Γ.2.2.1 v0 = 13) <|
  (f_X12_put Γ M v0 v2 v1).bind fun r14 =>
  some r14
def f_X12_rise (Γ : rhG) (M : rhM) (v0 : Nat) (v1 : Int32) : Option (rhM) :=
  rhck (Γ.2.2.1 v0 = 13) <|
  rhck (Γ.2.2.1 (M.2.2 v0 68) = 15) <|
  rhck (0 ≤ (v1).toInt ∧ (v1).toInt < (Γ.2.2.2 (M.2.2 v0 68) : Nat)) <|
  let x4 := M.1 (M.2.2 v0 68) v1.toNatClampNeg
  f_X12_rise_7 (f_X12_rise_53 Γ) Γ rhFU M v0 v1 x4
set_option maxHeartbeats 4000000 in
set_option maxRecDepth 100000 in
theorem b_X12_rise_7 {E : rhE} {Γ : rhG} {k53 : rhM → Nat → Int32 → Int32 → Option (rhM)} (hk53 : ∀ (M : rhM) (v0 : Nat) (v1 : Int32) (v2 : Int32), rhF E 5 3 yX12_rise cX12_rise none Γ (rhe1U Γ) (k53 M v0 v1 v2) 53 [(0, rhR v0), (1, rhI v1), (2, rhI v2)] [] Γ M) : ∀ (n : Nat) (M : rhM) (v0 : Nat) (v1 : Int32) (v2 : Int32), rhF E 5 3 yX12_rise cX12_rise none Γ (rhe1U Γ) (f_X12_rise_7 k53 Γ n M v0 v1 v2) 7 [(0, rhR v0), (1, rhI v1), (2, rhI v2)] [] Γ M := by
  intro n
  induction n with
  | zero => intro M v0 v1 v2; rw [f_X12_rise_7]; exact rhF.nope
  | succ n ih =>
    intro M v0 v1 v2
    rw [f_X12_rise_7]
    refine rhF.iload_n (pc := 7) dX12_rise_7 2 rfl ?_
    refine rhF.if_le (pc := 8) 53 dX12_rise_8 (by decide) (fun h5 => ?_) (fun h5 => ?_)
    · refine rhF.aload_n (pc := 11) dX12_rise_11 0 rfl ?_
      refine rhF.iload_n (pc := 12) dX12_rise_12 1 rfl ?_
      refine rhF.aload_n (pc := 13) dX12_rise_13 0 rfl ?_
      refine rhF.ck (fun h6 => ?_)
      refine rhF.get (pc := 14) (rhR _) dX12_rise_14 fl_X12_151 h6 rfl ?_
      refine rhF.iload_n (pc := 17) dX12_rise_17 2 rfl ?_
      refine rhF.iconst (pc := 18) (v := 1) dX12_rise_18 (by decide) ?_
      refine rhF.isub (pc := 19) dX12_rise_19 ?_
      refine rhF.iconst (pc := 20) (v := 2) dX12_rise_20 (by decide) ?_
      refine rhF.idivc (pc := 21) dX12_rise_21 (by decide) ?_
      refine rhF.ck (fun h7 => ?_)
      refine rhF.ck (fun h8 => ?_)
      refine rhF.iald (pc := 22) dX12_rise_22 h7 h8 ?_
      refine rhF.callV (pc := 23) (ci := 12) (embc := rhe0I _ _) [rhI _, rhI _] dX12_rise_23 ml_X12_524 mv_X12_isBefore ⟨_, rfl, rfl⟩ h6 (c_X12_isBefore _ _ _ _ _ _) (by decide) (by decide) rfl (Nat.le_of_ble_eq_true rfl) (fun r9 _ => ?_)
      refine rhF.if_eq (pc := 26) 53 dX12_rise_26 (by decide) (fun h10 => ?_) (fun h10 => ?_)
      · exact hk53 _ _ _ _
      · refine rhF.aload_n (pc := 29) dX12_rise_29 0 rfl ?_
        refine rhF.iload_n (pc := 30) dX12_rise_30 2 rfl ?_
        refine rhF.aload_n (pc := 31) dX12_rise_31 0 rfl ?_
        refine rhF.get (pc := 32) (rhR _) dX12_rise_32 fl_X12_151 h6 rfl ?_
        refine rhF.iload_n (pc := 35) dX12_rise_35 2 rfl ?_
        refine rhF.iconst (pc := 36) (v := 1) dX12_rise_36 (by decide) ?_
        refine rhF.isub (pc := 37) dX12_rise_37 ?_
        refine rhF.iconst (pc := 38) (v := 2) dX12_rise_38 (by decide) ?_
        refine rhF.idivc (pc := 39) dX12_rise_39 (by decide) ?_
        refine rhF.iald (pc := 40) dX12_rise_40 h7 h8 ?_
        refine rhF.callV (pc := 41) (ci := 12) (embc := rhe1U _) [rhI _, rhI _] dX12_rise_41 ml_X12_528 mv_X12_put ⟨_, rfl, rfl⟩ h6 (c_X12_put _ _ _ _ _ _) (by decide) (by decide) rfl (Nat.le_of_ble_eq_true rfl) (fun r11 _ => ?_)
        refine rhF.iload_n (pc := 44) dX12_rise_44 2 rfl ?_
        refine rhF.iconst (pc := 45) (v := 1) dX12_rise_45 (by decide) ?_
        refine rhF.isub (pc := 46) dX12_rise_46 ?_
        refine rhF.iconst (pc := 47) (v := 2) dX12_rise_47 (by decide) ?_
        refine rhF.idivc (pc := 48) dX12_rise_48 (by decide) ?_
        refine rhF.istore_n (pc := 49) (L' := [(2, rhI _), (0, rhR _), (1, rhI _)]) dX12_rise_49 (by decide) rfl ?_
        refine rhF.goto (pc := 50) 7 dX12_rise_50 (by decide) ?_
        refine rhF.sub [1, 2, 0] rfl ?_
        exact ih _ _ _ _
    · exact hk53 _ _ _ _
set_option maxHeartbeats 4000000 in
set_option maxRecDepth 100000 in
theorem b_X12_rise_53 {E : rhE} {Γ : rhG} : ∀ (M : rhM) (v0 : Nat) (v1 : Int32) (v2 : Int32), rhF E 5 3 yX12_rise cX12_rise none Γ (rhe1U Γ) (f_X12_rise_53 Γ M v0 v1 v2) 53 [(0, rhR v0), (1, rhI v1), (2, rhI v2)] [] Γ M := by
  intro M v0 v1 v2
  rw [f_X12_rise_53]
  refine rhF.aload_n (pc := 53) dX12_rise_53 0 rfl ?_
  refine rhF.iload_n (pc := 54) dX12_rise_54 2 rfl ?_
  refine rhF.iload_n (pc := 55) dX12_rise_55 1 rfl ?_
  refine rhF.ck (fun h13 => ?_)
  refine rhF.callV (pc := 56) (ci := 12) (embc := rhe1U _) [rhI _, rhI _] dX12_rise_56 ml_X12_528 mv_X12_put ⟨_, rfl, rfl⟩ h13 (c_X12_put _ _ _ _ _ _) (by decide) (by decide) rfl (Nat.le_of_ble_eq_true rfl) (fun r14 _ => ?_)
  exact rhF.vret (pc := 59) dX12_rise_59 rfl rfl
set_option maxHeartbeats 4000000 in
set_option maxRecDepth 100000 in
theorem b_X12_rise {E : rhE} {Γ : rhG} : ∀ (M : rhM) (v0 : Nat) (v1 : Int32), rhF E 5 3 yX12_rise cX12_rise none Γ (rhe1U Γ) (f_X12_rise Γ M v0 v1) 0 [(0, rhR v0), (1, rhI v1)] [] Γ M := by
  intro M v0 v1
  rw [f_X12_rise]
  refine rhF.aload_n (pc := 0) dX12_rise_0 0 rfl ?_
  refine rhF.ck (fun h1 => ?_)
  refine rhF.get (pc := 1) (rhR _) dX12_rise_1 fl_X12_154 h1 rfl ?_
  refine rhF.iload_n (pc := 4) dX12_rise_4 1 rfl ?_
  refine rhF.ck (fun h2 => ?_)
  refine rhF.ck (fun h3 => ?_)
  refine rhF.iald (pc := 5) dX12_rise_5 h2 h3 ?_
  refine rhF.istore_n (pc := 6) (L' := [(2, rhI _), (0, rhR _), (1, rhI _)]) dX12_rise_6 (by decide) rfl ?_
  refine rhF.sub [1, 2, 0] rfl ?_
  exact (b_X12_rise_7 (b_X12_rise_53) rhFU) _ _ _ _
theorem c_X12_rise (E : rhE) (Γ : rhG) (M : rhM) (v0 : Nat) (v1 : Int32) : ∀ a, f_X12_rise Γ M v0 v1 = some a → rhC E 5 yX12_rise cX12_rise 3 none [rhR v0, rhI v1] Γ M ((rhe1U Γ) a) := rhF.met (by decide +kernel) (Nat.le_of_ble_eq_true rfl) (b_X12_rise M v0 v1)
def f_X12_reaches_91 (Γ : rhG) (M : rhM) (v0 : Nat) (v1 : Int32) : Option (rhM) :=
  rhck (Γ.2.2.1 v0 = 13) <|
  (f_X12_rise Γ M v0 v1).bind fun r23 =>
  some r23
def f_X12_reaches_52 (Γ : rhG) (M : rhM) (v0 : Nat) (v1 : Int32) (v2 : Int32) (v3 : Int32) (v4 : Int32) : Option (rhM) :=
  rhck (Γ.2.2.1 v0 = 13) <|
  rhck (Γ.2.2.1 (M.2.2 v0 57) = 15) <|
  rhck (0 ≤ (v1).toInt ∧ (v1).toInt < (Γ.2.2.2 (M.2.2 v0 57) : Nat)) <|
  let M17 := rhsi M (M.2.2 v0 57) (v1 : Int32).toNatClampNeg v2
  rhck (Γ.2.2.1 (M.2.2 v0 56) = 15) <|
  rhck (0 ≤ (v1).toInt ∧ (v1).toInt < (Γ.2.2.2 (M.2.2 v0 56) : Nat)) <|
  let M20 := rhsi M17 (M.2.2 v0 56) (v1 : Int32).toNatClampNeg v3
  if v4 = 0 then
    (f_X12_reaches_91 Γ M20 v0 v1)
  else
    rhck (Γ.2.2.1 (M.2.2 v0 68) = 15) <|
    rhck (0 ≤ (v1).toInt ∧ (v1).toInt < (Γ.2.2.2 (M.2.2 v0 68) : Nat)) <|
    let M26 := rhsi M20 (M.2.2 v0 68) (v1 : Int32).toNatClampNeg (M20.1 v0 70)
    let M27 := rhsi M26 v0 70 ((M26.1 v0 70) + 1)
    f_X12_reaches_91 Γ M27 v0 v1
def f_X12_reaches_14 (Γ : rhG) (M : rhM) (v0 : Nat) (v1 : Int32) (v2 : Int32) (v3 : Int32) (s0 : Int32) : Option (rhM) :=
  if s0 = 0 then
    (rhck (Γ.2.2.1 v0 = 13) <|
    rhck (Γ.2.2.1 (M.2.2 v0 57) = 15) <|
    rhck (0 ≤ (v1).toInt ∧ (v1).toInt < (Γ.2.2.2 (M.2.2 v0 57) : Nat)) <|
    if (M.1 (M.2.2 v0 57) v1.toNatClampNeg) < v2 then
      (some M)
    else
      if (M.1 (M.2.2 v0 57) v1.toNatClampNeg) = v2 then
        (rhck (Γ.2.2.1 (M.2.2 v0 56) = 15) <|
        rhck (0 ≤ (v1).toInt ∧ (v1).toInt < (Γ.2.2.2 (M.2.2 v0 56) : Nat)) <|
        if v3 < (M.1 (M.2.2 v0 56) v1.toNatClampNeg) then
          (f_X12_reaches_52 Γ M v0 v1 v2 v3 s0)
        else
          some M)
      else
        f_X12_reaches_52 Γ M v0 v1 v2 v3 s0)
  else
    f_X12_reaches_52 Γ M v0 v1 v2 v3 s0
def f_X12_reaches (Γ : rhG) (M : rhM) (v0 : Nat) (v1 : Int32) (v2 : Int32) (v3 : Int32) : Option (rhM) :=
  rhck (Γ.2.2.1 v0 = 13) <|
  rhck (Γ.2.2.1 (M.2.2 v0 56) = 15) <|
  rhck (0 ≤ (v1).toInt ∧ (v1).toInt < (Γ.2.2.2 (M.2.2 v0 56) : Nat)) <|
  if (M.1 (M.2.2 v0 56) v1.toNatClampNeg) < 0 then
    (f_X12_reaches_14 Γ M v0 v1 v2 v3 1)
  else
    f_X12_reaches_14 Γ M v0 v1 v2 v3 0
set_option maxHeartbeats 4000000 in
set_option maxRecDepth 100000 in
theorem b_X12_reaches_91 {E : rhE} {Γ : rhG} : ∀ (M : rhM) (v0 : Nat) (v1 : Int32), rhF E 6 5 yX12_reaches cX12_reaches none Γ (rhe1U Γ) (f_X12_reaches_91 Γ M v0 v1) 91 [(0, rhR v0), (1, rhI v1)] [] Γ M := by
  intro M v0 v1
  rw [f_X12_reaches_91]
  refine rhF.aload_n (pc := 91) dX12_reaches_91 0 rfl ?_
  refine rhF.iload_n (pc := 92) dX12_reaches_92 1 rfl ?_
  refine rhF.ck (fun h22 => ?_)
  refine rhF.callV (pc := 93) (ci := 12) (embc := rhe1U _) [rhI _] dX12_reaches_93 ml_X12_534 mv_X12_rise ⟨_, rfl, rfl⟩ h22 (c_X12_rise _ _ _ _ _) (by decide) (by decide) rfl (Nat.le_of_ble_eq_true rfl) (fun r23 _ => ?_)
  exact rhF.vret (pc := 96) dX12_reaches_96 rfl rfl
set_option maxHeartbeats 4000000 in
set_option maxRecDepth 100000 in
theorem b_X12_reaches_52 {E : rhE} {Γ : rhG} : ∀ (M : rhM) (v0 : Nat) (v1 : Int32) (v2 : Int32) (v3 : Int32) (v4 : Int32), rhF E 6 5 yX12_reaches cX12_reaches none Γ (rhe1U Γ) (f_X12_reaches_52 Γ M v0 v1 v2 v3 v4) 52 [(0, rhR v0), (1, rhI v1), (2, rhI v2), (3, rhI v3), (4, rhI v4)] [] Γ M := by
  intro M v0 v1 v2 v3 v4
  rw [f_X12_reaches_52]
  refine rhF.aload_n (pc := 52) dX12_reaches_52 0 rfl ?_
  refine rhF.ck (fun h14 => ?_)
  refine rhF.get (pc := 53) (rhR _) dX12_reaches_53 fl_X12_132 h14 rfl ?_
  refine rhF.iload_n (pc := 56) dX12_reaches_56 1 rfl ?_
  refine rhF.iload_n (pc := 57) dX12_reaches_57 2 rfl ?_
  refine rhF.ck (fun h15 => ?_)
  refine rhF.ck (fun h16 => ?_)
  refine rhF.iast (pc := 58) dX12_reaches_58 h15 h16 ?_
  refine rhF.aload_n (pc := 59) dX12_reaches_59 0 rfl ?_
  refine rhF.get (pc := 60) (rhR _) dX12_reaches_60 fl_X12_129 h14 rfl ?_
  refine rhF.iload_n (pc := 63) dX12_reaches_63 1 rfl ?_
  refine rhF.iload_n (pc := 64) dX12_reaches_64 3 rfl ?_
  refine rhF.ck (fun h18 => ?_)
  refine rhF.ck (fun h19 => ?_)
  refine rhF.iast (pc := 65) dX12_reaches_65 h18 h19 ?_
  refine rhF.iload (pc := 66) dX12_reaches_66 4 rfl ?_
  refine rhF.if_eq (pc := 68) 91 dX12_reaches_68 (by decide) (fun h21 => ?_) (fun h21 => ?_)
  · refine rhF.sub [0, 1] rfl ?_
    exact (b_X12_reaches_91) _ _ _
  · refine rhF.aload_n (pc := 71) dX12_reaches_71 0 rfl ?_
    refine rhF.get (pc := 72) (rhR _) dX12_reaches_72 fl_X12_154 h14 rfl ?_
    refine rhF.iload_n (pc := 75) dX12_reaches_75 1 rfl ?_
    refine rhF.aload_n (pc := 76) dX12_reaches_76 0 rfl ?_
    refine rhF.get (pc := 77) (rhI _) dX12_reaches_77 fl_X12_531 h14 rfl ?_
    refine rhF.ck (fun h24 => ?_)
    refine rhF.ck (fun h25 => ?_)
    refine rhF.iast (pc := 80) dX12_reaches_80 h24 h25 ?_
    refine rhF.aload_n (pc := 81) dX12_reaches_81 0 rfl ?_
    refine rhF.dupr (pc := 82) dX12_reaches_82 ?_
    refine rhF.get (pc := 83) (rhI _) dX12_reaches_83 fl_X12_531 h14 rfl ?_
    refine rhF.iconst (pc := 86) (v := 1) dX12_reaches_86 (by decide) ?_
    refine rhF.iadd (pc := 87) dX12_reaches_87 ?_
    refine rhF.puti (pc := 88) dX12_reaches_88 fl_X12_531 h14 (fun q hq => by cases hq; exact Or.inl rfl) ⟨rfl, rfl⟩ (fun _ => rfl) ?_
    refine rhF.sub [0, 1] rfl ?_
    exact (b_X12_reaches_91) _ _ _
set_option maxHeartbeats 4000000 in
set_option maxRecDepth 100000 in
theorem b_X12_reaches_14 {E : rhE} {Γ : rhG} : ∀ (M : rhM) (v0 : Nat) (v1 : Int32) (v2 : Int32) (v3 : Int32) (s0 : Int32), rhF E 6 5 yX12_reaches cX12_reaches none Γ (rhe1U Γ) (f_X12_reaches_14 Γ M v0 v1 v2 v3 s0) 14 [(0, rhR v0), (1, rhI v1), (2, rhI v2), (3, rhI v3)] [rhI s0] Γ M := by
  intro M v0 v1 v2 v3 s0
  rw [f_X12_reaches_14]
  refine rhF.istore (pc := 14) (L' := [(4, rhI _), (0, rhR _), (1, rhI _), (2, rhI _), (3, rhI _)]) dX12_reaches_14 (by decide) rfl ?_
  refine rhF.iload (pc := 16) dX12_reaches_16 0 rfl ?_
  refine rhF.if_ne (pc := 18) 52 dX12_reaches_18 (by decide) (fun h5 => ?_) (fun h5 => ?_)
  · refine rhF.aload_n (pc := 21) dX12_reaches_21 1 rfl ?_
    refine rhF.ck (fun h6 => ?_)
    refine rhF.get (pc := 22) (rhR _) dX12_reaches_22 fl_X12_132 h6 rfl ?_
    refine rhF.iload_n (pc := 25) dX12_reaches_25 2 rfl ?_
    refine rhF.ck (fun h7 => ?_)
    refine rhF.ck (fun h8 => ?_)
    refine rhF.iald (pc := 26) dX12_reaches_26 h7 h8 ?_
    refine rhF.iload_n (pc := 27) dX12_reaches_27 3 rfl ?_
    refine rhF.icmp_lt (pc := 28) 51 dX12_reaches_28 (by decide) (fun h9 => ?_) (fun h9 => ?_)
    · exact rhF.vret (pc := 51) dX12_reaches_51 rfl rfl
    · refine rhF.aload_n (pc := 31) dX12_reaches_31 1 rfl ?_
      refine rhF.get (pc := 32) (rhR _) dX12_reaches_32 fl_X12_132 h6 rfl ?_
      refine rhF.iload_n (pc := 35) dX12_reaches_35 2 rfl ?_
      refine rhF.iald (pc := 36) dX12_reaches_36 h7 h8 ?_
      refine rhF.iload_n (pc := 37) dX12_reaches_37 3 rfl ?_
      refine rhF.icmp_ne (pc := 38) 52 dX12_reaches_38 (by decide) (fun h10 => ?_) (fun h10 => ?_)
      · refine rhF.aload_n (pc := 41) dX12_reaches_41 1 rfl ?_
        refine rhF.get (pc := 42) (rhR _) dX12_reaches_42 fl_X12_129 h6 rfl ?_
        refine rhF.iload_n (pc := 45) dX12_reaches_45 2 rfl ?_
        refine rhF.ck (fun h11 => ?_)
        refine rhF.ck (fun h12 => ?_)
        refine rhF.iald (pc := 46) dX12_reaches_46 h11 h12 ?_
        refine rhF.iload_n (pc := 47) dX12_reaches_47 4 rfl ?_
        refine rhF.icmp_gt (pc := 48) 52 dX12_reaches_48 (by decide) (fun h13 => ?_) (fun h13 => ?_)
        · refine rhF.sub [1, 2, 3, 4, 0] rfl ?_
          exact (b_X12_reaches_52) _ _ _ _ _ _
        · exact rhF.vret (pc := 51) dX12_reaches_51 rfl rfl
      · refine rhF.sub [1, 2, 3, 4, 0] rfl ?_
        exact (b_X12_reaches_52) _ _ _ _ _ _
  · refine rhF.sub [1, 2, 3, 4, 0] rfl ?_
    exact (b_X12_reaches_52) _ _ _ _ _ _
set_option maxHeartbeats 4000000 in
set_option maxRecDepth 100000 in
theorem b_X12_reaches {E : rhE} {Γ : rhG} : ∀ (M : rhM) (v0 : Nat) (v1 : Int32) (v2 : Int32) (v3 : Int32), rhF E 6 5 yX12_reaches cX12_reaches none Γ (rhe1U Γ) (f_X12_reaches Γ M v0 v1 v2 v3) 0 [(0, rhR v0), (1, rhI v1), (2, rhI v2), (3, rhI v3)] [] Γ M := by
  intro M v0 v1 v2 v3
  rw [f_X12_reaches]
  refine rhF.aload_n (pc := 0) dX12_reaches_0 0 rfl ?_
  refine rhF.ck (fun h1 => ?_)
  refine rhF.get (pc := 1) (rhR _) dX12_reaches_1 fl_X12_129 h1 rfl ?_
  refine rhF.iload_n (pc := 4) dX12_reaches_4 1 rfl ?_
  refine rhF.ck (fun h2 => ?_)
  refine rhF.ck (fun h3 => ?_)
  refine rhF.iald (pc := 5) dX12_reaches_5 h2 h3 ?_
  refine rhF.if_ge (pc := 6) 13 dX12_reaches_6 (by decide) (fun h4 => ?_) (fun h4 => ?_)
  · refine rhF.iconst (pc := 9) (v := 1) dX12_reaches_9 (by decide) ?_
    refine rhF.goto (pc := 10) 14 dX12_reaches_10 (by decide) ?_
    exact (b_X12_reaches_14) _ _ _ _ _ _
  · refine rhF.iconst (pc := 13) (v := 0) dX12_reaches_13 (by decide) ?_
    exact (b_X12_reaches_14) _ _ _ _ _ _
theorem c_X12_reaches (E : rhE) (Γ : rhG) (M : rhM) (v0 : Nat) (v1 : Int32) (v2 : Int32) (v3 : Int32) : ∀ a, f_X12_reaches Γ M v0 v1 v2 v3 = some a → rhC E 6 yX12_reaches cX12_reaches 5 none [rhR v0, rhI v1, rhI v2, rhI v3] Γ M ((rhe1U Γ) a) := rhF.met (by decide +kernel) (Nat.le_of_ble_eq_true rfl) (b_X12_reaches M v0 v1 v2 v3)
def f_X12_hush (Γ : rhG) (M : rhM) (v0 : Nat) : Option (Int32 × rhM) :=
  rhck (Γ.2.2.1 v0 = 13) <|
  let x2 := M.1 v0 51
  let M3 := rhsi M v0 51 0
  some ((x2, M3))
set_option maxHeartbeats 4000000 in
set_option maxRecDepth 100000 in
theorem b_X12_hush {E : rhE} {Γ : rhG} : ∀ (M : rhM) (v0 : Nat), rhF E 1 2 yX12_hush cX12_hush (some .int) Γ (rhe1I Γ) (f_X12_hush Γ M v0) 0 [(0, rhR v0)] [] Γ M := by
  intro M v0
  rw [f_X12_hush]
  refine rhF.aload_n (pc := 0) dX12_hush_0 0 rfl ?_
  refine rhF.ck (fun h1 => ?_)
  refine rhF.get (pc := 1) (rhI _) dX12_hush_1 fl_X12_336 h1 rfl ?_
  refine rhF.istore_n (pc := 4) (L' := [(1, rhI _), (0, rhR _)]) dX12_hush_4 (by decide) rfl ?_
  refine rhF.aload_n (pc := 5) dX12_hush_5 1 rfl ?_
  refine rhF.iconst (pc := 6) (v := 0) dX12_hush_6 (by decide) ?_
  refine rhF.puti (pc := 7) dX12_hush_7 fl_X12_336 h1 (fun q hq => by cases hq; exact Or.inl rfl) ⟨rfl, rfl⟩ (fun _ => rfl) ?_
  refine rhF.iload_n (pc := 10) dX12_hush_10 0 rfl ?_
  exact rhF.zret (pc := 11) dX12_hush_11 rfl rfl rfl
theorem c_X12_hush (E : rhE) (Γ : rhG) (M : rhM) (v0 : Nat) : ∀ a, f_X12_hush Γ M v0 = some a → rhC E 1 yX12_hush cX12_hush 2 (some .int) [rhR v0] Γ M ((rhe1I Γ) a) := rhF.met (by decide +kernel) (Nat.le_of_ble_eq_true rfl) (b_X12_hush M v0)
def f_X12_room (Γ : rhG) (M : rhM) (v0 : Nat) (v1 : Int32) : Option (Int32 × rhM) :=
  rhck (Γ.2.2.1 v0 = 13) <|
  (f_X12_isRail Γ M v0 v1).bind fun r2 =>
  if r2 = 0 then
    (some (((-1), M)))
  else
    (f_X12_layNow Γ M v0).bind fun r4 =>
    (f_X12_roomOn Γ r4 v0 v1).bind fun r5 =>
    some ((r5, r4))
set_option maxHeartbeats 4000000 in
set_option maxRecDepth 100000 in
theorem b_X12_room {E : rhE} {Γ : rhG} : ∀ (M : rhM) (v0 : Nat) (v1 : Int32), rhF E 6 2 yX12_room cX12_room (some .int) Γ (rhe1I Γ) (f_X12_room Γ M v0 v1) 0 [(0, rhR v0), (1, rhI v1)] [] Γ M := by
  intro M v0 v1
  rw [f_X12_room]
  refine rhF.aload_n (pc := 0) dX12_room_0 0 rfl ?_
  refine rhF.iload_n (pc := 1) dX12_room_1 1 rfl ?_
  refine rhF.ck (fun h1 => ?_)
  refine rhF.callV (pc := 2) (ci := 12) (embc := rhe0I _ _) [rhI _] dX12_room_2 ml_X12_428 mv_X12_isRail ⟨_, rfl, rfl⟩ h1 (c_X12_isRail _ _ _ _ _) (by decide) (by decide) rfl (Nat.le_of_ble_eq_true rfl) (fun r2 _ => ?_)
  refine rhF.if_ne (pc := 5) 10 dX12_room_5 (by decide) (fun h3 => ?_) (fun h3 => ?_)
  · refine rhF.iconst (pc := 8) (v := (-1)) dX12_room_8 (by decide) ?_
    exact rhF.zret (pc := 9) dX12_room_9 rfl rfl rfl
  · refine rhF.aload_n (pc := 10) dX12_room_10 0 rfl ?_
    refine rhF.callV (pc := 11) (ci := 12) (embc := rhe1U _) [] dX12_room_11 ml_X12_467 mv_X12_layNow ⟨_, rfl, rfl⟩ h1 (c_X12_layNow _ _ _ _) (by decide) (by decide) rfl (Nat.le_of_ble_eq_true rfl) (fun r4 _ => ?_)
    refine rhF.aload_n (pc := 14) dX12_room_14 0 rfl ?_
    refine rhF.iload_n (pc := 15) dX12_room_15 1 rfl ?_
    refine rhF.callV (pc := 16) (ci := 12) (embc := rhe0I _ _) [rhI _] dX12_room_16 ml_X12_435 mv_X12_roomOn ⟨_, rfl, rfl⟩ h1 (c_X12_roomOn _ _ _ _ _) (by decide) (by decide) rfl (Nat.le_of_ble_eq_true rfl) (fun r5 _ => ?_)
    exact rhF.zret (pc := 19) dX12_room_19 rfl rfl rfl
theorem c_X12_room (E : rhE) (Γ : rhG) (M : rhM) (v0 : Nat) (v1 : Int32) : ∀ a, f_X12_room Γ M v0 v1 = some a → rhC E 6 yX12_room cX12_room 2 (some .int) [rhR v0, rhI v1] Γ M ((rhe1I Γ) a) := rhF.met (by decide +kernel) (Nat.le_of_ble_eq_true rfl) (b_X12_room M v0 v1)
def f_X12_layLightest_46 (k11 : rhM → Nat → Int32 → Int32 → Option (rhM)) (Γ : rhG) (M : rhM) (v0 : Nat) (v1 : Int32) (v3 : Int32) (s0 : Int32) : Option (rhM) :=
  if s0 = 0 then
    (k11 M v0 v1 s0)
  else
    rhck (Γ.2.2.1 v0 = 13) <|
    rhck (Γ.2.2.1 (M.2.2 v0 65) = 15) <|
    rhck (0 ≤ (M.1 v0 66).toInt ∧ (M.1 v0 66).toInt < (Γ.2.2.2 (M.2.2 v0 65) : Nat)) <|
    let M15 := rhsi M (M.2.2 v0 65) (M.1 v0 66 : Int32).toNatClampNeg v3
    let M16 := rhsi M15 v0 66 ((M15.1 v0 66) + 1)
    (f_X12_stateOf Γ M16 v0).bind fun r17 =>
    k11 M16 v0 r17 s0
def f_X12_layLightest_36 (k11 : rhM → Nat → Int32 → Int32 → Option (rhM)) (Γ : rhG) (M : rhM) (v0 : Nat) (v1 : Int32) (s0 : Int32) : Option (rhM) :=
  if s0 < 0 then
    (f_X12_layLightest_46 k11 Γ M v0 v1 s0 0)
  else
    f_X12_layLightest_46 k11 Γ M v0 v1 s0 1
def f_X12_layLightest_11 (Γ : rhG) : Nat → rhM → Nat → Int32 → Int32 → Option (rhM)
  | 0, _, _, _, _ => none
  | n + 1, M, v0, v1, v2 =>
    if v2 = 0 then
      (some M)
    else
      rhck (Γ.2.2.1 v0 = 13) <|
      (f_X12_layState Γ M v0 v1).bind fun r6 =>
      (f_X12_isEnd Γ r6 v0).bind fun r7 =>
      if r7 = 0 then
        ((f_X12_nextTight Γ r6 v0 v1).bind fun r9 =>
        f_X12_layLightest_36 (f_X12_layLightest_11 Γ n) Γ r9.2 v0 v1 r9.1)
      else
        f_X12_layLightest_36 (f_X12_layLightest_11 Γ n) Γ r6 v0 v1 ((-1))
def f_X12_layLightest (Γ : rhG) (M : rhM) (v0 : Nat) : Option (rhM) :=
  rhck (Γ.2.2.1 v0 = 13) <|
  (f_X12_layNow Γ M v0).bind fun r2 =>
  (f_X12_stateOf Γ r2 v0).bind fun r3 =>
  f_X12_layLightest_11 Γ rhFU r2 v0 r3 1
set_option maxHeartbeats 4000000 in
set_option maxRecDepth 100000 in
theorem b_X12_layLightest_46 {E : rhE} {Γ : rhG} {k11 : rhM → Nat → Int32 → Int32 → Option (rhM)} (hk11 : ∀ (M : rhM) (v0 : Nat) (v1 : Int32) (v2 : Int32), rhF E 10 4 yX12_layLightest cX12_layLightest none Γ (rhe1U Γ) (k11 M v0 v1 v2) 11 [(0, rhR v0), (1, rhI v1), (2, rhI v2)] [] Γ M) : ∀ (M : rhM) (v0 : Nat) (v1 : Int32) (v3 : Int32) (s0 : Int32), rhF E 10 4 yX12_layLightest cX12_layLightest none Γ (rhe1U Γ) (f_X12_layLightest_46 k11 Γ M v0 v1 v3 s0) 46 [(0, rhR v0), (1, rhI v1), (3, rhI v3)] [rhI s0] Γ M := by
  intro M v0 v1 v3 s0
  rw [f_X12_layLightest_46]
  refine rhF.istore_n (pc := 46) (L' := [(2, rhI _), (0, rhR _), (1, rhI _), (3, rhI _)]) dX12_layLightest_46 (by decide) rfl ?_
  refine rhF.iload_n (pc := 47) dX12_layLightest_47 0 rfl ?_
  refine rhF.if_ne (pc := 48) 54 dX12_layLightest_48 (by decide) (fun h11 => ?_) (fun h11 => ?_)
  · refine rhF.goto (pc := 51) 11 dX12_layLightest_51 (by decide) ?_
    refine rhF.sub [1, 2, 0] rfl ?_
    exact hk11 _ _ _ _
  · refine rhF.aload_n (pc := 54) dX12_layLightest_54 1 rfl ?_
    refine rhF.ck (fun h12 => ?_)
    refine rhF.get (pc := 55) (rhR _) dX12_layLightest_55 fl_X12_148 h12 rfl ?_
    refine rhF.aload_n (pc := 58) dX12_layLightest_58 1 rfl ?_
    refine rhF.get (pc := 59) (rhI _) dX12_layLightest_59 fl_X12_342 h12 rfl ?_
    refine rhF.iload_n (pc := 62) dX12_layLightest_62 3 rfl ?_
    refine rhF.ck (fun h13 => ?_)
    refine rhF.ck (fun h14 => ?_)
    refine rhF.iast (pc := 63) dX12_layLightest_63 h13 h14 ?_
    refine rhF.aload_n (pc := 64) dX12_layLightest_64 1 rfl ?_
    refine rhF.dupr (pc := 65) dX12_layLightest_65 ?_
    refine rhF.get (pc := 66) (rhI _) dX12_layLightest_66 fl_X12_342 h12 rfl ?_
    refine rhF.iconst (pc := 69) (v := 1) dX12_layLightest_69 (by decide) ?_
    refine rhF.iadd (pc := 70) dX12_layLightest_70 ?_
    refine rhF.puti (pc := 71) dX12_layLightest_71 fl_X12_342 h12 (fun q hq => by cases hq; exact Or.inl rfl) ⟨rfl, rfl⟩ (fun _ => rfl) ?_
    refine rhF.aload_n (pc := 74) dX12_layLightest_74 1 rfl ?_
    refine rhF.callV (pc := 75) (ci := 12) (embc := rhe0I _ _) [] dX12_layLightest_75 ml_X12_490 mv_X12_stateOf ⟨_, rfl, rfl⟩ h12 (c_X12_stateOf _ _ _ _) (by decide) (by decide) rfl (Nat.le_of_ble_eq_true rfl) (fun r17 _ => ?_)
    refine rhF.istore_n (pc := 78) (L' := [(1, rhI _), (2, rhI _), (0, rhR _), (3, rhI _)]) dX12_layLightest_78 (by decide) rfl ?_
    refine rhF.goto (pc := 79) 11 dX12_layLightest_79 (by decide) ?_
    refine rhF.sub [2, 0, 1] rfl ?_
    exact hk11 _ _ _ _
set_option maxHeartbeats 4000000 in
set_option maxRecDepth 100000 in
theorem b_X12_layLightest_36 {E : rhE} {Γ : rhG} {k11 : rhM → Nat → Int32 → Int32 → Option (rhM)} (hk11 : ∀ (M : rhM) (v0 : Nat) (v1 : Int32) (v2 : Int32), rhF E 10 4 yX12_layLightest cX12_layLightest none Γ (rhe1U Γ) (k11 M v0 v1 v2) 11 [(0, rhR v0), (1, rhI v1), (2, rhI v2)] [] Γ M) : ∀ (M : rhM) (v0 : Nat) (v1 : Int32) (s0 : Int32), rhF E 10 4 yX12_layLightest cX12_layLightest none Γ (rhe1U Γ) (f_X12_layLightest_36 k11 Γ M v0 v1 s0) 36 [(0, rhR v0), (1, rhI v1)] [rhI s0] Γ M := by
  intro M v0 v1 s0
  rw [f_X12_layLightest_36]
  refine rhF.istore_n (pc := 36) (L' := [(3, rhI _), (0, rhR _), (1, rhI _)]) dX12_layLightest_36 (by decide) rfl ?_
  refine rhF.iload_n (pc := 37) dX12_layLightest_37 0 rfl ?_
  refine rhF.if_lt (pc := 38) 45 dX12_layLightest_38 (by decide) (fun h10 => ?_) (fun h10 => ?_)
  · refine rhF.iconst (pc := 45) (v := 0) dX12_layLightest_45 (by decide) ?_
    refine rhF.sub [1, 2, 0] rfl ?_
    exact (b_X12_layLightest_46 hk11) _ _ _ _ _
  · refine rhF.iconst (pc := 41) (v := 1) dX12_layLightest_41 (by decide) ?_
    refine rhF.goto (pc := 42) 46 dX12_layLightest_42 (by decide) ?_
    refine rhF.sub [1, 2, 0] rfl ?_
    exact (b_X12_layLightest_46 hk11) _ _ _ _ _
set_option maxHeartbeats 4000000 in
set_option maxRecDepth 100000 in
theorem b_X12_layLightest_11 {E : rhE} {Γ : rhG} : ∀ (n : Nat) (M : rhM) (v0 : Nat) (v1 : Int32) (v2 : Int32), rhF E 10 4 yX12_layLightest cX12_layLightest none Γ (rhe1U Γ) (f_X12_layLightest_11 Γ n M v0 v1 v2) 11 [(0, rhR v0), (1, rhI v1), (2, rhI v2)] [] Γ M := by
  intro n
  induction n with
  | zero => intro M v0 v1 v2; rw [f_X12_layLightest_11]; exact rhF.nope
  | succ n ih =>
    intro M v0 v1 v2
    rw [f_X12_layLightest_11]
    refine rhF.iload_n (pc := 11) dX12_layLightest_11 2 rfl ?_
    refine rhF.if_eq (pc := 12) 82 dX12_layLightest_12 (by decide) (fun h4 => ?_) (fun h4 => ?_)
    · exact rhF.vret (pc := 82) dX12_layLightest_82 rfl rfl
    · refine rhF.aload_n (pc := 15) dX12_layLightest_15 0 rfl ?_
      refine rhF.iload_n (pc := 16) dX12_layLightest_16 1 rfl ?_
      refine rhF.ck (fun h5 => ?_)
      refine rhF.callV (pc := 17) (ci := 12) (embc := rhe1U _) [rhI _] dX12_layLightest_17 ml_X12_499 mv_X12_layState ⟨_, rfl, rfl⟩ h5 (c_X12_layState _ _ _ _ _) (by decide) (by decide) rfl (Nat.le_of_ble_eq_true rfl) (fun r6 _ => ?_)
      refine rhF.aload_n (pc := 20) dX12_layLightest_20 0 rfl ?_
      refine rhF.callV (pc := 21) (ci := 12) (embc := rhe0I _ _) [] dX12_layLightest_21 ml_X12_503 mv_X12_isEnd ⟨_, rfl, rfl⟩ h5 (c_X12_isEnd _ _ _ _) (by decide) (by decide) rfl (Nat.le_of_ble_eq_true rfl) (fun r7 _ => ?_)
      refine rhF.if_eq (pc := 24) 31 dX12_layLightest_24 (by decide) (fun h8 => ?_) (fun h8 => ?_)
      · refine rhF.aload_n (pc := 31) dX12_layLightest_31 0 rfl ?_
        refine rhF.iload_n (pc := 32) dX12_layLightest_32 1 rfl ?_
        refine rhF.callV (pc := 33) (ci := 12) (embc := rhe1I _) [rhI _] dX12_layLightest_33 ml_X12_549 mv_X12_nextTight ⟨_, rfl, rfl⟩ h5 (c_X12_nextTight _ _ _ _ _) (by decide) (by decide) rfl (Nat.le_of_ble_eq_true rfl) (fun r9 _ => ?_)
        refine rhF.sub [0, 1] rfl ?_
        exact (b_X12_layLightest_36 ih) _ _ _ _
      · refine rhF.iconst (pc := 27) (v := (-1)) dX12_layLightest_27 (by decide) ?_
        refine rhF.goto (pc := 28) 36 dX12_layLightest_28 (by decide) ?_
        refine rhF.sub [0, 1] rfl ?_
        exact (b_X12_layLightest_36 ih) _ _ _ _
set_option maxHeartbeats 4000000 in
set_option maxRecDepth 100000 in
theorem b_X12_layLightest {E : rhE} {Γ : rhG} : ∀ (M : rhM) (v0 : Nat), rhF E 10 4 yX12_layLightest cX12_layLightest none Γ (rhe1U Γ) (f_X12_layLightest Γ M v0) 0 [(0, rhR v0)] [] Γ M := by
  intro M v0
  rw [f_X12_layLightest]
  refine rhF.aload_n (pc := 0) dX12_layLightest_0 0 rfl ?_
  refine rhF.ck (fun h1 => ?_)
  refine rhF.callV (pc := 1) (ci := 12) (embc := rhe1U _) [] dX12_layLightest_1 ml_X12_467 mv_X12_layNow ⟨_, rfl, rfl⟩ h1 (c_X12_layNow _ _ _ _) (by decide) (by decide) rfl (Nat.le_of_ble_eq_true rfl) (fun r2 _ => ?_)
  refine rhF.aload_n (pc := 4) dX12_layLightest_4 0 rfl ?_
  refine rhF.callV (pc := 5) (ci := 12) (embc := rhe0I _ _) [] dX12_layLightest_5 ml_X12_490 mv_X12_stateOf ⟨_, rfl, rfl⟩ h1 (c_X12_stateOf _ _ _ _) (by decide) (by decide) rfl (Nat.le_of_ble_eq_true rfl) (fun r3 _ => ?_)
  refine rhF.istore_n (pc := 8) (L' := [(1, rhI _), (0, rhR _)]) dX12_layLightest_8 (by decide) rfl ?_
  refine rhF.iconst (pc := 9) (v := 1) dX12_layLightest_9 (by decide) ?_
  refine rhF.istore_n (pc := 10) (L' := [(2, rhI _), (1, rhI _), (0, rhR _)]) dX12_layLightest_10 (by decide) rfl ?_
  refine rhF.sub [2, 1, 0] rfl ?_
  exact (b_X12_layLightest_11 rhFU) _ _ _ _
theorem c_X12_layLightest (E : rhE) (Γ : rhG) (M : rhM) (v0 : Nat) : ∀ a, f_X12_layLightest Γ M v0 = some a → rhC E 10 yX12_layLightest cX12_layLightest 4 none [rhR v0] Γ M ((rhe1U Γ) a) := rhF.met (by decide +kernel) (Nat.le_of_ble_eq_true rfl) (b_X12_layLightest M v0)
def f_X12_settle_2 (k21 : rhM → Nat → Option (rhM)) (Γ : rhG) : Nat → rhM → Nat → Int32 → Option (rhM)
  | 0, _, _, _ => none
  | n + 1, M, v0, v1 =>
    if v1 < 246960 then
      (rhck (Γ.2.2.1 v0 = 13) <|
      rhck (Γ.2.2.1 (M.2.2 v0 56) = 15) <|
      rhck (0 ≤ (v1).toInt ∧ (v1).toInt < (Γ.2.2.2 (M.2.2 v0 56) : Nat)) <|
      let M5 := rhsi M (M.2.2 v0 56) (v1 : Int32).toNatClampNeg ((-1))
      let x6 : Int32 := v1 + 1
      f_X12_settle_2 k21 Γ n M5 v0 x6)
    else
      k21 M v0
def f_X12_settle_200 (k128 : rhM → Nat → Int32 → Int32 → Int32 → Int32 → Option (rhM)) (Γ : rhG) (M : rhM) (v0 : Nat) (v1 : Int32) (v2 : Int32) (v3 : Int32) (v4 : Int32) : Option (rhM) :=
  let x37 : Int32 := v4 + 1
  k128 M v0 v1 v2 v3 x37
def f_X12_settle_128 (k206 : rhM → Nat → Int32 → Int32 → Int32 → Option (rhM)) (Γ : rhG) : Nat → rhM → Nat → Int32 → Int32 → Int32 → Int32 → Option (rhM)
  | 0, _, _, _, _, _, _ => none
  | n + 1, M, v0, v1, v2, v3, v4 =>
    rhck (Γ.2.2.1 v0 = 13) <|
    (f_X12_railMany Γ M v0).bind fun r32 =>
    if v4 < r32 then
      ((f_X12_layAt Γ M v0).bind fun r34 =>
      (f_X12_isLawful Γ r34 v0 v2 v3 v4).bind fun r35 =>
      if r35.1 = 0 then
        (f_X12_settle_200 (f_X12_settle_128 k206 Γ n) Γ r35.2 v0 v1 v2 v3 v4)
      else
        (f_X12_sumOf Γ r35.2 v0 (r35.2.2.2 v0 20) v2 v3).bind fun r38 =>
        (f_X12_moves Γ r35.2 v0 v2 v3 v4).bind fun r39 =>
        (f_X12_stateOf Γ r39 v0).bind fun r40 =>
        rhck (Γ.2.2.1 (r39.2.2 v0 57) = 15) <|
        rhck (0 ≤ (v1).toInt ∧ (v1).toInt < (Γ.2.2.2 (r39.2.2 v0 57) : Nat)) <|
        rhck (Γ.2.2.1 (r39.2.2 v0 56) = 15) <|
        rhck (0 ≤ (v1).toInt ∧ (v1).toInt < (Γ.2.2.2 (r39.2.2 v0 56) : Nat)) <|
        (f_X12_reaches Γ r39 v0 r40 ((r39.1 (r39.2.2 v0 57) v1.toNatClampNeg) + r38) ((r39.1 (r39.2.2 v0 56) v1.toNatClampNeg) + 1)).bind fun r45 =>
        f_X12_settle_200 (f_X12_settle_128 k206 Γ n) Γ r45 v0 v1 v2 v3 v4)
    else
      k206 M v0 v1 v2 v3
def f_X12_settle_206 (k98 : rhM → Nat → Int32 → Int32 → Int32 → Option (rhM)) (Γ : rhG) (M : rhM) (v0 : Nat) (v1 : Int32) (v2 : Int32) (v3 : Int32) : Option (rhM) :=
  let x46 : Int32 := v3 + 1
  k98 M v0 v1 v2 x46
def f_X12_settle_121 (k98 : rhM → Nat → Int32 → Int32 → Int32 → Option (rhM)) (k212 : rhM → Nat → Int32 → Int32 → Option (rhM)) (Γ : rhG) (M : rhM) (v0 : Nat) (v1 : Int32) (v2 : Int32) (v3 : Int32) (s0 : Int32) (s1 : Int32) (s2 : Int32) : Option (rhM) :=
  if (s1 - s2) < s0 then
    (k212 M v0 v1 v2)
  else
    f_X12_settle_128 (f_X12_settle_206 k98 Γ) Γ rhFU M v0 v1 v2 v3 0
def f_X12_settle_98 (k212 : rhM → Nat → Int32 → Int32 → Option (rhM)) (Γ : rhG) : Nat → rhM → Nat → Int32 → Int32 → Int32 → Option (rhM)
  | 0, _, _, _, _, _ => none
  | n + 1, M, v0, v1, v2, v3 =>
    rhck (Γ.2.2.1 v0 = 13) <|
    rhck (Γ.2.2.1 (M.2.2 v0 64) = 15) <|
    rhck (0 ≤ (v2).toInt ∧ (v2).toInt < (Γ.2.2.2 (M.2.2 v0 64) : Nat)) <|
    if v2 = 0 then
      (f_X12_settle_121 (f_X12_settle_98 k212 Γ n) k212 Γ M v0 v1 v2 v3 v3 (M.1 (M.2.2 v0 64) v2.toNatClampNeg) 0)
    else
      rhck (0 ≤ (v2 - 1).toInt ∧ (v2 - 1).toInt < (Γ.2.2.2 (M.2.2 v0 64) : Nat)) <|
      f_X12_settle_121 (f_X12_settle_98 k212 Γ n) k212 Γ M v0 v1 v2 v3 v3 (M.1 (M.2.2 v0 64) v2.toNatClampNeg) (M.1 (M.2.2 v0 64) (v2 - 1).toNatClampNeg)
def f_X12_settle_212 (k88 : rhM → Nat → Int32 → Int32 → Option (rhM)) (Γ : rhG) (M : rhM) (v0 : Nat) (v1 : Int32) (v2 : Int32) : Option (rhM) :=
  let x48 : Int32 := v2 + 1
  k88 M v0 v1 x48
def f_X12_settle_88 (k218 : rhM → Nat → Option (rhM)) (Γ : rhG) : Nat → rhM → Nat → Int32 → Int32 → Option (rhM)
  | 0, _, _, _, _ => none
  | n + 1, M, v0, v1, v2 =>
    rhck (Γ.2.2.1 v0 = 13) <|
    (f_X12_railMany Γ M v0).bind fun r24 =>
    if v2 < r24 then
      (f_X12_settle_98 (f_X12_settle_212 (f_X12_settle_88 k218 Γ n) Γ) Γ rhFU M v0 v1 v2 1)
    else
      k218 M v0
def f_X12_settle_218 (k45 : rhM → Nat → Option (rhM)) (Γ : rhG) (M : rhM) (v0 : Nat) : Option (rhM) :=
  k45 M v0
def f_X12_settle_45 (Γ : rhG) : Nat → rhM → Nat → Option (rhM)
  | 0, _, _ => none
  | n + 1, M, v0 =>
    rhck (Γ.2.2.1 v0 = 13) <|
    if 0 < (M.1 v0 70) then
      ((f_X12_takeFirst Γ M v0).bind fun r15 =>
      let x16 := r15.1
      rhck (Γ.2.2.1 (r15.2.2.2 v0 69) = 15) <|
      rhck (0 ≤ (r15.2.1 v0 71).toInt ∧ (r15.2.1 v0 71).toInt < (Γ.2.2.2 (r15.2.2.2 v0 69) : Nat)) <|
      let M19 := rhsi r15.2 (r15.2.2.2 v0 69) (r15.2.1 v0 71 : Int32).toNatClampNeg x16
      let M20 := rhsi M19 v0 71 ((M19.1 v0 71) + 1)
      (f_X12_layState Γ M20 v0 x16).bind fun r21 =>
      (f_X12_keepAt Γ r21 v0).bind fun r22 =>
      f_X12_settle_88 (f_X12_settle_218 (f_X12_settle_45 Γ n) Γ) Γ rhFU r22 v0 x16 0)
    else
      some M
def f_X12_settle_21 (Γ : rhG) (M : rhM) (v0 : Nat) : Option (rhM) :=
  rhck (Γ.2.2.1 v0 = 13) <|
  let M8 := rhsi M v0 70 0
  let M9 := rhsi M8 v0 71 0
  (f_X12_layNow Γ M9 v0).bind fun r10 =>
  (f_X12_stateOf Γ r10 v0).bind fun r11 =>
  (f_X12_reaches Γ r10 v0 r11 (0 : Int32) (0 : Int32)).bind fun r12 =>
  f_X12_settle_45 Γ rhFU r12 v0
def f_X12_settle (Γ : rhG) (M : rhM) (v0 : Nat) : Option (rhM) :=
  f_X12_settle_2 (f_X12_settle_21 Γ) Γ rhFU M v0 0
set_option maxHeartbeats 4000000 in
set_option maxRecDepth 100000 in
theorem b_X12_settle_2 {E : rhE} {Γ : rhG} {k21 : rhM → Nat → Option (rhM)} (hk21 : ∀ (M : rhM) (v0 : Nat), rhF E 9 6 yX12_settle cX12_settle none Γ (rhe1U Γ) (k21 M v0) 21 [(0, rhR v0)] [] Γ M) : ∀ (n : Nat) (M : rhM) (v0 : Nat) (v1 : Int32), rhF E 9 6 yX12_settle cX12_settle none Γ (rhe1U Γ) (f_X12_settle_2 k21 Γ n M v0 v1) 2 [(0, rhR v0), (1, rhI v1)] [] Γ M := by
  intro n
  induction n with
  | zero => intro M v0 v1; rw [f_X12_settle_2]; exact rhF.nope
  | succ n ih =>
    intro M v0 v1
    rw [f_X12_settle_2]
    refine rhF.iload_n (pc := 2) dX12_settle_2 1 rfl ?_
    refine rhF.ldc (pc := 3) dX12_settle_3 k_X12_122 ?_
    refine rhF.icmp_ge (pc := 5) 21 dX12_settle_5 (by decide) (fun h1 => ?_) (fun h1 => ?_)
    · refine rhF.aload_n (pc := 8) dX12_settle_8 0 rfl ?_
      refine rhF.ck (fun h2 => ?_)
      refine rhF.get (pc := 9) (rhR _) dX12_settle_9 fl_X12_129 h2 rfl ?_
      refine rhF.iload_n (pc := 12) dX12_settle_12 1 rfl ?_
      refine rhF.iconst (pc := 13) (v := (-1)) dX12_settle_13 (by decide) ?_
      refine rhF.ck (fun h3 => ?_)
      refine rhF.ck (fun h4 => ?_)
      refine rhF.iast (pc := 14) dX12_settle_14 h3 h4 ?_
      refine rhF.iinc (pc := 15) (L' := [(1, rhI _), (0, rhR _)]) dX12_settle_15 1 rfl rfl (by decide) rfl ?_
      refine rhF.goto (pc := 18) 2 dX12_settle_18 (by decide) ?_
      refine rhF.sub [1, 0] rfl ?_
      exact ih _ _ _
    · refine rhF.sub [0] rfl ?_
      exact hk21 _ _
set_option maxHeartbeats 4000000 in
set_option maxRecDepth 100000 in
theorem b_X12_settle_200 {E : rhE} {Γ : rhG} {k128 : rhM → Nat → Int32 → Int32 → Int32 → Int32 → Option (rhM)} (hk128 : ∀ (M : rhM) (v0 : Nat) (v1 : Int32) (v2 : Int32) (v3 : Int32) (v4 : Int32), rhF E 9 6 yX12_settle cX12_settle none Γ (rhe1U Γ) (k128 M v0 v1 v2 v3 v4) 128 [(0, rhR v0), (1, rhI v1), (2, rhI v2), (3, rhI v3), (4, rhI v4)] [] Γ M) : ∀ (M : rhM) (v0 : Nat) (v1 : Int32) (v2 : Int32) (v3 : Int32) (v4 : Int32), rhF E 9 6 yX12_settle cX12_settle none Γ (rhe1U Γ) (f_X12_settle_200 k128 Γ M v0 v1 v2 v3 v4) 200 [(0, rhR v0), (1, rhI v1), (2, rhI v2), (3, rhI v3), (4, rhI v4)] [] Γ M := by
  intro M v0 v1 v2 v3 v4
  rw [f_X12_settle_200]
  refine rhF.iinc (pc := 200) (L' := [(4, rhI _), (0, rhR _), (1, rhI _), (2, rhI _), (3, rhI _)]) dX12_settle_200 4 rfl rfl (by decide) rfl ?_
  refine rhF.goto (pc := 203) 128 dX12_settle_203 (by decide) ?_
  refine rhF.sub [1, 2, 3, 4, 0] rfl ?_
  exact hk128 _ _ _ _ _ _
set_option maxHeartbeats 4000000 in
set_option maxRecDepth 100000 in
theorem b_X12_settle_128 {E : rhE} {Γ : rhG} {k206 : rhM → Nat → Int32 → Int32 → Int32 → Option (rhM)} (hk206 : ∀ (M : rhM) (v0 : Nat) (v1 : Int32) (v2 : Int32) (v3 : Int32), rhF E 9 6 yX12_settle cX12_settle none Γ (rhe1U Γ) (k206 M v0 v1 v2 v3) 206 [(0, rhR v0), (1, rhI v1), (2, rhI v2), (3, rhI v3)] [] Γ M) : ∀ (n : Nat) (M : rhM) (v0 : Nat) (v1 : Int32) (v2 : Int32) (v3 : Int32) (v4 : Int32), rhF E 9 6 yX12_settle cX12_settle none Γ (rhe1U Γ) (f_X12_settle_128 k206 Γ n M v0 v1 v2 v3 v4) 128 [(0, rhR v0), (1, rhI v1), (2, rhI v2), (3, rhI v3), (4, rhI v4)] [] Γ M := by
  intro n
  induction n with
  | zero => intro M v0 v1 v2 v3 v4; rw [f_X12_settle_128]; exact rhF.nope
  | succ n ih =>
    intro M v0 v1 v2 v3 v4
    rw [f_X12_settle_128]
    refine rhF.iload (pc := 128) dX12_settle_128 4 rfl ?_
    refine rhF.aload_n (pc := 130) dX12_settle_130 0 rfl ?_
    refine rhF.ck (fun h31 => ?_)
    refine rhF.callV (pc := 131) (ci := 12) (embc := rhe0I _ _) [] dX12_settle_131 ml_X12_412 mv_X12_railMany ⟨_, rfl, rfl⟩ h31 (c_X12_railMany _ _ _ _) (by decide) (by decide) rfl (Nat.le_of_ble_eq_true rfl) (fun r32 _ => ?_)
    refine rhF.icmp_ge (pc := 134) 206 dX12_settle_134 (by decide) (fun h33 => ?_) (fun h33 => ?_)
    · refine rhF.aload_n (pc := 137) dX12_settle_137 0 rfl ?_
      refine rhF.callV (pc := 138) (ci := 12) (embc := rhe1U _) [] dX12_settle_138 ml_X12_512 mv_X12_layAt ⟨_, rfl, rfl⟩ h31 (c_X12_layAt _ _ _ _) (by decide) (by decide) rfl (Nat.le_of_ble_eq_true rfl) (fun r34 _ => ?_)
      refine rhF.aload_n (pc := 141) dX12_settle_141 0 rfl ?_
      refine rhF.iload_n (pc := 142) dX12_settle_142 2 rfl ?_
      refine rhF.iload_n (pc := 143) dX12_settle_143 3 rfl ?_
      refine rhF.iload (pc := 144) dX12_settle_144 4 rfl ?_
      refine rhF.callV (pc := 146) (ci := 12) (embc := rhe1I _) [rhI _, rhI _, rhI _] dX12_settle_146 ml_X12_471 mv_X12_isLawful ⟨_, rfl, rfl⟩ h31 (c_X12_isLawful _ _ _ _ _ _ _) (by decide) (by decide) rfl (Nat.le_of_ble_eq_true rfl) (fun r35 _ => ?_)
      refine rhF.if_ne (pc := 149) 155 dX12_settle_149 (by decide) (fun h36 => ?_) (fun h36 => ?_)
      · refine rhF.goto (pc := 152) 200 dX12_settle_152 (by decide) ?_
        exact (b_X12_settle_200 ih) _ _ _ _ _ _
      · refine rhF.aload_n (pc := 155) dX12_settle_155 0 rfl ?_
        refine rhF.aload_n (pc := 156) dX12_settle_156 0 rfl ?_
        refine rhF.get (pc := 157) (rhR _) dX12_settle_157 fl_X12_48 h31 rfl ?_
        refine rhF.iload_n (pc := 160) dX12_settle_160 2 rfl ?_
        refine rhF.iload_n (pc := 161) dX12_settle_161 3 rfl ?_
        refine rhF.callV (pc := 162) (ci := 12) (embc := rhe0I _ _) [rhR _, rhI _, rhI _] dX12_settle_162 ml_X12_431 mv_X12_sumOf ⟨_, rfl, rfl⟩ h31 (c_X12_sumOf _ _ _ _ _ _ _) (by decide) (by decide) rfl (Nat.le_of_ble_eq_true rfl) (fun r38 _ => ?_)
        refine rhF.istore (pc := 165) (L' := [(5, rhI _), (0, rhR _), (1, rhI _), (2, rhI _), (3, rhI _), (4, rhI _)]) dX12_settle_165 (by decide) rfl ?_
        refine rhF.aload_n (pc := 167) dX12_settle_167 1 rfl ?_
        refine rhF.iload_n (pc := 168) dX12_settle_168 3 rfl ?_
        refine rhF.iload_n (pc := 169) dX12_settle_169 4 rfl ?_
        refine rhF.iload (pc := 170) dX12_settle_170 5 rfl ?_
        refine rhF.callV (pc := 172) (ci := 12) (embc := rhe1U _) [rhI _, rhI _, rhI _] dX12_settle_172 ml_X12_474 mv_X12_moves ⟨_, rfl, rfl⟩ h31 (c_X12_moves _ _ _ _ _ _ _) (by decide) (by decide) rfl (Nat.le_of_ble_eq_true rfl) (fun r39 _ => ?_)
        refine rhF.aload_n (pc := 175) dX12_settle_175 1 rfl ?_
        refine rhF.aload_n (pc := 176) dX12_settle_176 1 rfl ?_
        refine rhF.callV (pc := 177) (ci := 12) (embc := rhe0I _ _) [] dX12_settle_177 ml_X12_490 mv_X12_stateOf ⟨_, rfl, rfl⟩ h31 (c_X12_stateOf _ _ _ _) (by decide) (by decide) rfl (Nat.le_of_ble_eq_true rfl) (fun r40 _ => ?_)
        refine rhF.aload_n (pc := 180) dX12_settle_180 1 rfl ?_
        refine rhF.get (pc := 181) (rhR _) dX12_settle_181 fl_X12_132 h31 rfl ?_
        refine rhF.iload_n (pc := 184) dX12_settle_184 2 rfl ?_
        refine rhF.ck (fun h41 => ?_)
        refine rhF.ck (fun h42 => ?_)
        refine rhF.iald (pc := 185) dX12_settle_185 h41 h42 ?_
        refine rhF.iload (pc := 186) dX12_settle_186 0 rfl ?_
        refine rhF.iadd (pc := 188) dX12_settle_188 ?_
        refine rhF.aload_n (pc := 189) dX12_settle_189 1 rfl ?_
        refine rhF.get (pc := 190) (rhR _) dX12_settle_190 fl_X12_129 h31 rfl ?_
        refine rhF.iload_n (pc := 193) dX12_settle_193 2 rfl ?_
        refine rhF.ck (fun h43 => ?_)
        refine rhF.ck (fun h44 => ?_)
        refine rhF.iald (pc := 194) dX12_settle_194 h43 h44 ?_
        refine rhF.iconst (pc := 195) (v := 1) dX12_settle_195 (by decide) ?_
        refine rhF.iadd (pc := 196) dX12_settle_196 ?_
        refine rhF.callV (pc := 197) (ci := 12) (embc := rhe1U _) [rhI _, rhI _, rhI _] dX12_settle_197 ml_X12_540 mv_X12_reaches ⟨_, rfl, rfl⟩ h31 (c_X12_reaches _ _ _ _ _ _ _) (by decide) (by decide) rfl (Nat.le_of_ble_eq_true rfl) (fun r45 _ => ?_)
        refine rhF.sub [1, 2, 3, 4, 5] rfl ?_
        exact (b_X12_settle_200 ih) _ _ _ _ _ _
    · refine rhF.sub [0, 1, 2, 3] rfl ?_
      exact hk206 _ _ _ _ _
set_option maxHeartbeats 4000000 in
set_option maxRecDepth 100000 in
theorem b_X12_settle_206 {E : rhE} {Γ : rhG} {k98 : rhM → Nat → Int32 → Int32 → Int32 → Option (rhM)} (hk98 : ∀ (M : rhM) (v0 : Nat) (v1 : Int32) (v2 : Int32) (v3 : Int32), rhF E 9 6 yX12_settle cX12_settle none Γ (rhe1U Γ) (k98 M v0 v1 v2 v3) 98 [(0, rhR v0), (1, rhI v1), (2, rhI v2), (3, rhI v3)] [] Γ M) : ∀ (M : rhM) (v0 : Nat) (v1 : Int32) (v2 : Int32) (v3 : Int32), rhF E 9 6 yX12_settle cX12_settle none Γ (rhe1U Γ) (f_X12_settle_206 k98 Γ M v0 v1 v2 v3) 206 [(0, rhR v0), (1, rhI v1), (2, rhI v2), (3, rhI v3)] [] Γ M := by
  intro M v0 v1 v2 v3
  rw [f_X12_settle_206]
  refine rhF.iinc (pc := 206) (L' := [(3, rhI _), (0, rhR _), (1, rhI _), (2, rhI _)]) dX12_settle_206 3 rfl rfl (by decide) rfl ?_
  refine rhF.goto (pc := 209) 98 dX12_settle_209 (by decide) ?_
  refine rhF.sub [1, 2, 3, 0] rfl ?_
  exact hk98 _ _ _ _ _
set_option maxHeartbeats 4000000 in
set_option maxRecDepth 100000 in
theorem b_X12_settle_121 {E : rhE} {Γ : rhG} {k98 : rhM → Nat → Int32 → Int32 → Int32 → Option (rhM)} {k212 : rhM → Nat → Int32 → Int32 → Option (rhM)} (hk98 : ∀ (M : rhM) (v0 : Nat) (v1 : Int32) (v2 : Int32) (v3 : Int32), rhF E 9 6 yX12_settle cX12_settle none Γ (rhe1U Γ) (k98 M v0 v1 v2 v3) 98 [(0, rhR v0), (1, rhI v1), (2, rhI v2), (3, rhI v3)] [] Γ M) (hk212 : ∀ (M : rhM) (v0 : Nat) (v1 : Int32) (v2 : Int32), rhF E 9 6 yX12_settle cX12_settle none Γ (rhe1U Γ) (k212 M v0 v1 v2) 212 [(0, rhR v0), (1, rhI v1), (2, rhI v2)] [] Γ M) : ∀ (M : rhM) (v0 : Nat) (v1 : Int32) (v2 : Int32) (v3 : Int32) (s0 : Int32) (s1 : Int32) (s2 : Int32), rhF E 9 6 yX12_settle cX12_settle none Γ (rhe1U Γ) (f_X12_settle_121 k98 k212 Γ M v0 v1 v2 v3 s0 s1 s2) 121 [(0, rhR v0), (1, rhI v1), (2, rhI v2), (3, rhI v3)] [rhI s2, rhI s1, rhI s0] Γ M := by
  intro M v0 v1 v2 v3 s0 s1 s2
  rw [f_X12_settle_121]
  refine rhF.isub (pc := 121) dX12_settle_121 ?_
  refine rhF.icmp_gt (pc := 122) 212 dX12_settle_122 (by decide) (fun h30 => ?_) (fun h30 => ?_)
  · refine rhF.sub [0, 1, 2] rfl ?_
    exact hk212 _ _ _ _
  · refine rhF.iconst (pc := 125) (v := 0) dX12_settle_125 (by decide) ?_
    refine rhF.istore (pc := 126) (L' := [(4, rhI _), (0, rhR _), (1, rhI _), (2, rhI _), (3, rhI _)]) dX12_settle_126 (by decide) rfl ?_
    refine rhF.sub [1, 2, 3, 4, 0] rfl ?_
    exact (b_X12_settle_128 (b_X12_settle_206 hk98) rhFU) _ _ _ _ _ _
set_option maxHeartbeats 4000000 in
set_option maxRecDepth 100000 in
theorem b_X12_settle_98 {E : rhE} {Γ : rhG} {k212 : rhM → Nat → Int32 → Int32 → Option (rhM)} (hk212 : ∀ (M : rhM) (v0 : Nat) (v1 : Int32) (v2 : Int32), rhF E 9 6 yX12_settle cX12_settle none Γ (rhe1U Γ) (k212 M v0 v1 v2) 212 [(0, rhR v0), (1, rhI v1), (2, rhI v2)] [] Γ M) : ∀ (n : Nat) (M : rhM) (v0 : Nat) (v1 : Int32) (v2 : Int32) (v3 : Int32), rhF E 9 6 yX12_settle cX12_settle none Γ (rhe1U Γ) (f_X12_settle_98 k212 Γ n M v0 v1 v2 v3) 98 [(0, rhR v0), (1, rhI v1), (2, rhI v2), (3, rhI v3)] [] Γ M := by
  intro n
  induction n with
  | zero => intro M v0 v1 v2 v3; rw [f_X12_settle_98]; exact rhF.nope
  | succ n ih =>
    intro M v0 v1 v2 v3
    rw [f_X12_settle_98]
    refine rhF.iload_n (pc := 98) dX12_settle_98 3 rfl ?_
    refine rhF.aload_n (pc := 99) dX12_settle_99 0 rfl ?_
    refine rhF.ck (fun h26 => ?_)
    refine rhF.get (pc := 100) (rhR _) dX12_settle_100 fl_X12_145 h26 rfl ?_
    refine rhF.iload_n (pc := 103) dX12_settle_103 2 rfl ?_
    refine rhF.ck (fun h27 => ?_)
    refine rhF.ck (fun h28 => ?_)
    refine rhF.iald (pc := 104) dX12_settle_104 h27 h28 ?_
    refine rhF.iload_n (pc := 105) dX12_settle_105 2 rfl ?_
    refine rhF.if_ne (pc := 106) 113 dX12_settle_106 (by decide) (fun h29 => ?_) (fun h29 => ?_)
    · refine rhF.iconst (pc := 109) (v := 0) dX12_settle_109 (by decide) ?_
      refine rhF.goto (pc := 110) 121 dX12_settle_110 (by decide) ?_
      exact (b_X12_settle_121 ih hk212) _ _ _ _ _ _ _ _
    · refine rhF.aload_n (pc := 113) dX12_settle_113 0 rfl ?_
      refine rhF.get (pc := 114) (rhR _) dX12_settle_114 fl_X12_145 h26 rfl ?_
      refine rhF.iload_n (pc := 117) dX12_settle_117 2 rfl ?_
      refine rhF.iconst (pc := 118) (v := 1) dX12_settle_118 (by decide) ?_
      refine rhF.isub (pc := 119) dX12_settle_119 ?_
      refine rhF.ck (fun h47 => ?_)
      refine rhF.iald (pc := 120) dX12_settle_120 h27 h47 ?_
      exact (b_X12_settle_121 ih hk212) _ _ _ _ _ _ _ _
set_option maxHeartbeats 4000000 in
set_option maxRecDepth 100000 in
theorem b_X12_settle_212 {E : rhE} {Γ : rhG} {k88 : rhM → Nat → Int32 → Int32 → Option (rhM)} (hk88 : ∀ (M : rhM) (v0 : Nat) (v1 : Int32) (v2 : Int32), rhF E 9 6 yX12_settle cX12_settle none Γ (rhe1U Γ) (k88 M v0 v1 v2) 88 [(0, rhR v0), (1, rhI v1), (2, rhI v2)] [] Γ M) : ∀ (M : rhM) (v0 : Nat) (v1 : Int32) (v2 : Int32), rhF E 9 6 yX12_settle cX12_settle none Γ (rhe1U Γ) (f_X12_settle_212 k88 Γ M v0 v1 v2) 212 [(0, rhR v0), (1, rhI v1), (2, rhI v2)] [] Γ M := by
  intro M v0 v1 v2
  rw [f_X12_settle_212]
  refine rhF.iinc (pc := 212) (L' := [(2, rhI _), (0, rhR _), (1, rhI _)]) dX12_settle_212 2 rfl rfl (by decide) rfl ?_
  refine rhF.goto (pc := 215) 88 dX12_settle_215 (by decide) ?_
  refine rhF.sub [1, 2, 0] rfl ?_
  exact hk88 _ _ _ _
set_option maxHeartbeats 4000000 in
set_option maxRecDepth 100000 in
theorem b_X12_settle_88 {E : rhE} {Γ : rhG} {k218 : rhM → Nat → Option (rhM)} (hk218 : ∀ (M : rhM) (v0 : Nat), rhF E 9 6 yX12_settle cX12_settle none Γ (rhe1U Γ) (k218 M v0) 218 [(0, rhR v0)] [] Γ M) : ∀ (n : Nat) (M : rhM) (v0 : Nat) (v1 : Int32) (v2 : Int32), rhF E 9 6 yX12_settle cX12_settle none Γ (rhe1U Γ) (f_X12_settle_88 k218 Γ n M v0 v1 v2) 88 [(0, rhR v0), (1, rhI v1), (2, rhI v2)] [] Γ M := by
  intro n
  induction n with
  | zero => intro M v0 v1 v2; rw [f_X12_settle_88]; exact rhF.nope
  | succ n ih =>
    intro M v0 v1 v2
    rw [f_X12_settle_88]
    refine rhF.iload_n (pc := 88) dX12_settle_88 2 rfl ?_
    refine rhF.aload_n (pc := 89) dX12_settle_89 0 rfl ?_
    refine rhF.ck (fun h23 => ?_)
    refine rhF.callV (pc := 90) (ci := 12) (embc := rhe0I _ _) [] dX12_settle_90 ml_X12_412 mv_X12_railMany ⟨_, rfl, rfl⟩ h23 (c_X12_railMany _ _ _ _) (by decide) (by decide) rfl (Nat.le_of_ble_eq_true rfl) (fun r24 _ => ?_)
    refine rhF.icmp_ge (pc := 93) 218 dX12_settle_93 (by decide) (fun h25 => ?_) (fun h25 => ?_)
    · refine rhF.iconst (pc := 96) (v := 1) dX12_settle_96 (by decide) ?_
      refine rhF.istore_n (pc := 97) (L' := [(3, rhI _), (0, rhR _), (1, rhI _), (2, rhI _)]) dX12_settle_97 (by decide) rfl ?_
      refine rhF.sub [1, 2, 3, 0] rfl ?_
      exact (b_X12_settle_98 (b_X12_settle_212 ih) rhFU) _ _ _ _ _
    · refine rhF.sub [0] rfl ?_
      exact hk218 _ _
set_option maxHeartbeats 4000000 in
set_option maxRecDepth 100000 in
theorem b_X12_settle_218 {E : rhE} {Γ : rhG} {k45 : rhM → Nat → Option (rhM)} (hk45 : ∀ (M : rhM) (v0 : Nat), rhF E 9 6 yX12_settle cX12_settle none Γ (rhe1U Γ) (k45 M v0) 45 [(0, rhR v0)] [] Γ M) : ∀ (M : rhM) (v0 : Nat), rhF E 9 6 yX12_settle cX12_settle none Γ (rhe1U Γ) (f_X12_settle_218 k45 Γ M v0) 218 [(0, rhR v0)] [] Γ M := by
  intro M v0
  rw [f_X12_settle_218]
  refine rhF.goto (pc := 218) 45 dX12_settle_218 (by decide) ?_
  exact hk45 _ _
set_option maxHeartbeats 4000000 in
set_option maxRecDepth 100000 in
theorem b_X12_settle_45 {E : rhE} {Γ : rhG} : ∀ (n : Nat) (M : rhM) (v0 : Nat), rhF E 9 6 yX12_settle cX12_settle none Γ (rhe1U Γ) (f_X12_settle_45 Γ n M v0) 45 [(0, rhR v0)] [] Γ M := by
  intro n
  induction n with
  | zero => intro M v0; rw [f_X12_settle_45]; exact rhF.nope
  | succ n ih =>
    intro M v0
    rw [f_X12_settle_45]
    refine rhF.aload_n (pc := 45) dX12_settle_45 0 rfl ?_
    refine rhF.ck (fun h13 => ?_)
    refine rhF.get (pc := 46) (rhI _) dX12_settle_46 fl_X12_531 h13 rfl ?_
    refine rhF.if_le (pc := 49) 221 dX12_settle_49 (by decide) (fun h14 => ?_) (fun h14 => ?_)
    · refine rhF.aload_n (pc := 52) dX12_settle_52 0 rfl ?_
      refine rhF.callV (pc := 53) (ci := 12) (embc := rhe1I _) [] dX12_settle_53 ml_X12_543 mv_X12_takeFirst ⟨_, rfl, rfl⟩ h13 (c_X12_takeFirst _ _ _ _) (by decide) (by decide) rfl (Nat.le_of_ble_eq_true rfl) (fun r15 _ => ?_)
      refine rhF.istore_n (pc := 56) (L' := [(1, rhI _), (0, rhR _)]) dX12_settle_56 (by decide) rfl ?_
      refine rhF.aload_n (pc := 57) dX12_settle_57 1 rfl ?_
      refine rhF.get (pc := 58) (rhR _) dX12_settle_58 fl_X12_157 h13 rfl ?_
      refine rhF.aload_n (pc := 61) dX12_settle_61 1 rfl ?_
      refine rhF.get (pc := 62) (rhI _) dX12_settle_62 fl_X12_537 h13 rfl ?_
      refine rhF.iload_n (pc := 65) dX12_settle_65 0 rfl ?_
      refine rhF.ck (fun h17 => ?_)
      refine rhF.ck (fun h18 => ?_)
      refine rhF.iast (pc := 66) dX12_settle_66 h17 h18 ?_
      refine rhF.aload_n (pc := 67) dX12_settle_67 1 rfl ?_
      refine rhF.dupr (pc := 68) dX12_settle_68 ?_
      refine rhF.get (pc := 69) (rhI _) dX12_settle_69 fl_X12_537 h13 rfl ?_
      refine rhF.iconst (pc := 72) (v := 1) dX12_settle_72 (by decide) ?_
      refine rhF.iadd (pc := 73) dX12_settle_73 ?_
      refine rhF.puti (pc := 74) dX12_settle_74 fl_X12_537 h13 (fun q hq => by cases hq; exact Or.inl rfl) ⟨rfl, rfl⟩ (fun _ => rfl) ?_
      refine rhF.aload_n (pc := 77) dX12_settle_77 1 rfl ?_
      refine rhF.iload_n (pc := 78) dX12_settle_78 0 rfl ?_
      refine rhF.callV (pc := 79) (ci := 12) (embc := rhe1U _) [rhI _] dX12_settle_79 ml_X12_499 mv_X12_layState ⟨_, rfl, rfl⟩ h13 (c_X12_layState _ _ _ _ _) (by decide) (by decide) rfl (Nat.le_of_ble_eq_true rfl) (fun r21 _ => ?_)
      refine rhF.aload_n (pc := 82) dX12_settle_82 1 rfl ?_
      refine rhF.callV (pc := 83) (ci := 12) (embc := rhe1U _) [] dX12_settle_83 ml_X12_509 mv_X12_keepAt ⟨_, rfl, rfl⟩ h13 (c_X12_keepAt _ _ _ _) (by decide) (by decide) rfl (Nat.le_of_ble_eq_true rfl) (fun r22 _ => ?_)
      refine rhF.iconst (pc := 86) (v := 0) dX12_settle_86 (by decide) ?_
      refine rhF.istore_n (pc := 87) (L' := [(2, rhI _), (1, rhI _), (0, rhR _)]) dX12_settle_87 (by decide) rfl ?_
      refine rhF.sub [2, 1, 0] rfl ?_
      exact (b_X12_settle_88 (b_X12_settle_218 ih) rhFU) _ _ _ _
    · exact rhF.vret (pc := 221) dX12_settle_221 rfl rfl
set_option maxHeartbeats 4000000 in
set_option maxRecDepth 100000 in
theorem b_X12_settle_21 {E : rhE} {Γ : rhG} : ∀ (M : rhM) (v0 : Nat), rhF E 9 6 yX12_settle cX12_settle none Γ (rhe1U Γ) (f_X12_settle_21 Γ M v0) 21 [(0, rhR v0)] [] Γ M := by
  intro M v0
  rw [f_X12_settle_21]
  refine rhF.aload_n (pc := 21) dX12_settle_21 0 rfl ?_
  refine rhF.iconst (pc := 22) (v := 0) dX12_settle_22 (by decide) ?_
  refine rhF.ck (fun h7 => ?_)
  refine rhF.puti (pc := 23) dX12_settle_23 fl_X12_531 h7 (fun q hq => by cases hq; exact Or.inl rfl) ⟨rfl, rfl⟩ (fun _ => rfl) ?_
  refine rhF.aload_n (pc := 26) dX12_settle_26 0 rfl ?_
  refine rhF.iconst (pc := 27) (v := 0) dX12_settle_27 (by decide) ?_
  refine rhF.puti (pc := 28) dX12_settle_28 fl_X12_537 h7 (fun q hq => by cases hq; exact Or.inl rfl) ⟨rfl, rfl⟩ (fun _ => rfl) ?_
  refine rhF.aload_n (pc := 31) dX12_settle_31 0 rfl ?_
  refine rhF.callV (pc := 32) (ci := 12) (embc := rhe1U _) [] dX12_settle_32 ml_X12_467 mv_X12_layNow ⟨_, rfl, rfl⟩ h7 (c_X12_layNow _ _ _ _) (by decide) (by decide) rfl (Nat.le_of_ble_eq_true rfl) (fun r10 _ => ?_)
  refine rhF.aload_n (pc := 35) dX12_settle_35 0 rfl ?_
  refine rhF.aload_n (pc := 36) dX12_settle_36 0 rfl ?_
  refine rhF.callV (pc := 37) (ci := 12) (embc := rhe0I _ _) [] dX12_settle_37 ml_X12_490 mv_X12_stateOf ⟨_, rfl, rfl⟩ h7 (c_X12_stateOf _ _ _ _) (by decide) (by decide) rfl (Nat.le_of_ble_eq_true rfl) (fun r11 _ => ?_)
  refine rhF.iconst (pc := 40) (v := 0) dX12_settle_40 (by decide) ?_
  refine rhF.iconst (pc := 41) (v := 0) dX12_settle_41 (by decide) ?_
  refine rhF.callV (pc := 42) (ci := 12) (embc := rhe1U _) [rhI _, rhI _, rhI _] dX12_settle_42 ml_X12_540 mv_X12_reaches ⟨_, rfl, rfl⟩ h7 (c_X12_reaches _ _ _ _ _ _ _) (by decide) (by decide) rfl (Nat.le_of_ble_eq_true rfl) (fun r12 _ => ?_)
  exact (b_X12_settle_45 rhFU) _ _
set_option maxHeartbeats 4000000 in
set_option maxRecDepth 100000 in
theorem b_X12_settle {E : rhE} {Γ : rhG} : ∀ (M : rhM) (v0 : Nat), rhF E 9 6 yX12_settle cX12_settle none Γ (rhe1U Γ) (f_X12_settle Γ M v0) 0 [(0, rhR v0)] [] Γ M := by
  intro M v0
  rw [f_X12_settle]
  refine rhF.iconst (pc := 0) (v := 0) dX12_settle_0 (by decide) ?_
  refine rhF.istore_n (pc := 1) (L' := [(1, rhI _), (0, rhR _)]) dX12_settle_1 (by decide) rfl ?_
  refine rhF.sub [1, 0] rfl ?_
  exact (b_X12_settle_2 (b_X12_settle_21) rhFU) _ _ _
theorem c_X12_settle (E : rhE) (Γ : rhG) (M : rhM) (v0 : Nat) : ∀ a, f_X12_settle Γ M v0 = some a → rhC E 9 yX12_settle cX12_settle 6 none [rhR v0] Γ M ((rhe1U Γ) a) := rhF.met (by decide +kernel) (Nat.le_of_ble_eq_true rfl) (b_X12_settle M v0)
def f_X12_least_64 (k28 : rhM → Nat → Int32 → Int32 → Option (Int32 × rhM)) (Γ : rhG) (M : rhM) (v0 : Nat) (v1 : Int32) (v2 : Int32) : Option (Int32 × rhM) :=
  let x15 : Int32 := v2 + 1
  k28 M v0 v1 x15
def f_X12_least_28 (k70 : rhM → Nat → Int32 → Option (Int32 × rhM)) (Γ : rhG) : Nat → rhM → Nat → Int32 → Int32 → Option (Int32 × rhM)
  | 0, _, _, _, _ => none
  | n + 1, M, v0, v1, v2 =>
    rhck (Γ.2.2.1 v0 = 13) <|
    if v2 < (M.1 v0 71) then
      (if v1 < 0 then
        (rhck (Γ.2.2.1 (M.2.2 v0 69) = 15) <|
        rhck (0 ≤ (v2).toInt ∧ (v2).toInt < (Γ.2.2.2 (M.2.2 v0 69) : Nat)) <|
        (f_X12_layState Γ M v0 (M.1 (M.2.2 v0 69) v2.toNatClampNeg)).bind fun r12 =>
        (f_X12_isEnd Γ r12 v0).bind fun r13 =>
        if r13 = 0 then
          (f_X12_least_64 (f_X12_least_28 k70 Γ n) Γ r12 v0 v1 v2)
        else
          rhck (Γ.2.2.1 (r12.2.2 v0 69) = 15) <|
          rhck (0 ≤ (v2).toInt ∧ (v2).toInt < (Γ.2.2.2 (r12.2.2 v0 69) : Nat)) <|
          let x18 := r12.1 (r12.2.2 v0 69) v2.toNatClampNeg
          f_X12_least_64 (f_X12_least_28 k70 Γ n) Γ r12 v0 x18 v2)
      else
        k70 M v0 v1)
    else
      k70 M v0 v1
def f_X12_least_78 (k104 : rhM → Nat → Int32 → Option (Int32 × rhM)) (Γ : rhG) : Nat → rhM → Nat → Int32 → Int32 → Option (Int32 × rhM)
  | 0, _, _, _, _ => none
  | n + 1, M, v0, v1, v2 =>
    rhck (Γ.2.2.1 v0 = 13) <|
    if v2 < (M.1 v0 71) then
      (rhck (Γ.2.2.1 (M.2.2 v0 69) = 15) <|
      rhck (0 ≤ (v2).toInt ∧ (v2).toInt < (Γ.2.2.2 (M.2.2 v0 69) : Nat)) <|
      rhck (Γ.2.2.1 (M.2.2 v0 59) = 17) <|
      rhck (0 ≤ (M.1 (M.2.2 v0 69) v2.toNatClampNeg).toInt ∧ (M.1 (M.2.2 v0 69) v2.toNatClampNeg).toInt < (Γ.2.2.2 (M.2.2 v0 59) : Nat)) <|
      let M26 := rhsi M (M.2.2 v0 59) (M.1 (M.2.2 v0 69) v2.toNatClampNeg : Int32).toNatClampNeg (vp_nar .boolean 0)
      let x27 : Int32 := v2 + 1
      f_X12_least_78 k104 Γ n M26 v0 v1 x27)
    else
      k104 M v0 v1
def f_X12_least_160 (k168 : rhM → Nat → Int32 → Int32 → Nat → Int32 → Option (Int32 × rhM)) (k173 : rhM → Nat → Int32 → Int32 → Nat → Int32 → Int32 → Option (Int32 × rhM)) (Γ : rhG) (M : rhM) (v0 : Nat) (v1 : Int32) (v2 : Int32) (v3 : Int32) (s0 : Nat) (s1 : Int32) : Option (Int32 × rhM) :=
  rhck (Γ.2.2.1 v0 = 13) <|
  (f_X12_nextTight Γ M v0 v3).bind fun r43 =>
  if r43.1 < 0 then
    (k173 r43.2 v0 v1 v2 s0 s1 0)
  else
    k168 r43.2 v0 v1 v2 s0 s1
def f_X12_least_168 (k173 : rhM → Nat → Int32 → Int32 → Nat → Int32 → Int32 → Option (Int32 × rhM)) (Γ : rhG) (M : rhM) (v0 : Nat) (v1 : Int32) (v2 : Int32) (s0 : Nat) (s1 : Int32) : Option (Int32 × rhM) :=
  k173 M v0 v1 v2 s0 s1 1
def f_X12_least_173 (k174 : rhM → Nat → Int32 → Int32 → Option (Int32 × rhM)) (Γ : rhG) (M : rhM) (v0 : Nat) (v1 : Int32) (v2 : Int32) (s0 : Nat) (s1 : Int32) (s2 : Int32) : Option (Int32 × rhM) :=
  rhck (Γ.2.2.1 s0 = 17) <|
  rhck (0 ≤ (s1).toInt ∧ (s1).toInt < (Γ.2.2.2 s0 : Nat)) <|
  let M47 := rhsi M s0 (s1 : Int32).toNatClampNeg (vp_nar .boolean s2)
  k174 M47 v0 v1 v2
def f_X12_least_174 (k111 : rhM → Nat → Int32 → Int32 → Option (Int32 × rhM)) (Γ : rhG) (M : rhM) (v0 : Nat) (v1 : Int32) (v2 : Int32) : Option (Int32 × rhM) :=
  let x48 : Int32 := v2 + (-1)
  k111 M v0 v1 x48
def f_X12_least_111 (k180 : rhM → Nat → Int32 → Option (Int32 × rhM)) (Γ : rhG) : Nat → rhM → Nat → Int32 → Int32 → Option (Int32 × rhM)
  | 0, _, _, _, _ => none
  | n + 1, M, v0, v1, v2 =>
    if v2 < 0 then
      (k180 M v0 v1)
    else
      rhck (Γ.2.2.1 v0 = 13) <|
      rhck (Γ.2.2.1 (M.2.2 v0 69) = 15) <|
      rhck (0 ≤ (v2).toInt ∧ (v2).toInt < (Γ.2.2.2 (M.2.2 v0 69) : Nat)) <|
      let x34 := M.1 (M.2.2 v0 69) v2.toNatClampNeg
      (f_X12_isBefore Γ M v0 v1 x34).bind fun r35 =>
      if r35 = 0 then
        ((f_X12_layState Γ M v0 x34).bind fun r37 =>
        (f_X12_isBefore Γ r37 v0 x34 v1).bind fun r38 =>
        if r38 = 0 then
          ((f_X12_isEnd Γ r37 v0).bind fun r40 =>
          if r40 = 0 then
            (f_X12_least_160 (f_X12_least_168 (f_X12_least_173 (f_X12_least_174 (f_X12_least_111 k180 Γ n) Γ) Γ) Γ) (f_X12_least_173 (f_X12_least_174 (f_X12_least_111 k180 Γ n) Γ) Γ) Γ r37 v0 v1 v2 x34 (r37.2.2 v0 59) x34)
          else
            f_X12_least_168 (f_X12_least_173 (f_X12_least_174 (f_X12_least_111 k180 Γ n) Γ) Γ) Γ r37 v0 v1 v2 (r37.2.2 v0 59) x34)
        else
          f_X12_least_160 (f_X12_least_168 (f_X12_least_173 (f_X12_least_174 (f_X12_least_111 k180 Γ n) Γ) Γ) Γ) (f_X12_least_173 (f_X12_least_174 (f_X12_least_111 k180 Γ n) Γ) Γ) Γ r37 v0 v1 v2 x34 (r37.2.2 v0 59) x34)
      else
        f_X12_least_174 (f_X12_least_111 k180 Γ n) Γ M v0 v1 v2
def f_X12_least_180 (Γ : rhG) (M : rhM) (v0 : Nat) (v1 : Int32) : Option (Int32 × rhM) :=
  rhck (Γ.2.2.1 v0 = 13) <|
  (f_X12_layLightest Γ M v0).bind fun r50 =>
  rhck (Γ.2.2.1 (r50.2.2 v0 57) = 15) <|
  rhck (0 ≤ (v1).toInt ∧ (v1).toInt < (Γ.2.2.2 (r50.2.2 v0 57) : Nat)) <|
  some ((r50.1 (r50.2.2 v0 57) v1.toNatClampNeg, r50))
def f_X12_least_104 (Γ : rhG) (M : rhM) (v0 : Nat) (v1 : Int32) : Option (Int32 × rhM) :=
  rhck (Γ.2.2.1 v0 = 13) <|
  let x29 := (M.1 v0 71) - 1
  f_X12_least_111 (f_X12_least_180 Γ) Γ rhFU M v0 v1 x29
def f_X12_least_70 (Γ : rhG) (M : rhM) (v0 : Nat) (v1 : Int32) : Option (Int32 × rhM) :=
  if v1 < 0 then
    (some (((-1), M)))
  else
    f_X12_least_78 (f_X12_least_104 Γ) Γ rhFU M v0 v1 0
def f_X12_least (Γ : rhG) (M : rhM) (v0 : Nat) : Option (Int32 × rhM) :=
  rhck (Γ.2.2.1 v0 = 13) <|
  let M2 := rhsi M v0 66 0
  (f_X12_isMany Γ M2 v0).bind fun r3 =>
  if r3 = 0 then
    ((f_X12_settle Γ M2 v0).bind fun r5 =>
    let M6 := rhsi r5 v0 61 0
    f_X12_least_28 (f_X12_least_70 Γ) Γ rhFU M6 v0 ((-1)) 0)
  else
    some (((-2), M2))
set_option maxHeartbeats 4000000 in
set_option maxRecDepth 100000 in
theorem b_X12_least_64 {E : rhE} {Γ : rhG} {k28 : rhM → Nat → Int32 → Int32 → Option (Int32 × rhM)} (hk28 : ∀ (M : rhM) (v0 : Nat) (v1 : Int32) (v2 : Int32), rhF E 11 4 yX12_least cX12_least (some .int) Γ (rhe1I Γ) (k28 M v0 v1 v2) 28 [(0, rhR v0), (1, rhI v1), (2, rhI v2)] [] Γ M) : ∀ (M : rhM) (v0 : Nat) (v1 : Int32) (v2 : Int32), rhF E 11 4 yX12_least cX12_least (some .int) Γ (rhe1I Γ) (f_X12_least_64 k28 Γ M v0 v1 v2) 64 [(0, rhR v0), (1, rhI v1), (2, rhI v2)] [] Γ M := by
  intro M v0 v1 v2
  rw [f_X12_least_64]
  refine rhF.iinc (pc := 64) (L' := [(2, rhI _), (0, rhR _), (1, rhI _)]) dX12_least_64 2 rfl rfl (by decide) rfl ?_
  refine rhF.goto (pc := 67) 28 dX12_least_67 (by decide) ?_
  refine rhF.sub [1, 2, 0] rfl ?_
  exact hk28 _ _ _ _
set_option maxHeartbeats 4000000 in
set_option maxRecDepth 100000 in
theorem b_X12_least_28 {E : rhE} {Γ : rhG} {k70 : rhM → Nat → Int32 → Option (Int32 × rhM)} (hk70 : ∀ (M : rhM) (v0 : Nat) (v1 : Int32), rhF E 11 4 yX12_least cX12_least (some .int) Γ (rhe1I Γ) (k70 M v0 v1) 70 [(0, rhR v0), (1, rhI v1)] [] Γ M) : ∀ (n : Nat) (M : rhM) (v0 : Nat) (v1 : Int32) (v2 : Int32), rhF E 11 4 yX12_least cX12_least (some .int) Γ (rhe1I Γ) (f_X12_least_28 k70 Γ n M v0 v1 v2) 28 [(0, rhR v0), (1, rhI v1), (2, rhI v2)] [] Γ M := by
  intro n
  induction n with
  | zero => intro M v0 v1 v2; rw [f_X12_least_28]; exact rhF.nope
  | succ n ih =>
    intro M v0 v1 v2
    rw [f_X12_least_28]
    refine rhF.iload_n (pc := 28) dX12_least_28 2 rfl ?_
    refine rhF.aload_n (pc := 29) dX12_least_29 0 rfl ?_
    refine rhF.ck (fun h7 => ?_)
    refine rhF.get (pc := 30) (rhI _) dX12_least_30 fl_X12_537 h7 rfl ?_
    refine rhF.icmp_ge (pc := 33) 70 dX12_least_33 (by decide) (fun h8 => ?_) (fun h8 => ?_)
    · refine rhF.iload_n (pc := 36) dX12_least_36 1 rfl ?_
      refine rhF.if_ge (pc := 37) 70 dX12_least_37 (by decide) (fun h9 => ?_) (fun h9 => ?_)
      · refine rhF.aload_n (pc := 40) dX12_least_40 0 rfl ?_
        refine rhF.aload_n (pc := 41) dX12_least_41 0 rfl ?_
        refine rhF.get (pc := 42) (rhR _) dX12_least_42 fl_X12_157 h7 rfl ?_
        refine rhF.iload_n (pc := 45) dX12_least_45 2 rfl ?_
        refine rhF.ck (fun h10 => ?_)
        refine rhF.ck (fun h11 => ?_)
        refine rhF.iald (pc := 46) dX12_least_46 h10 h11 ?_
        refine rhF.callV (pc := 47) (ci := 12) (embc := rhe1U _) [rhI _] dX12_least_47 ml_X12_499 mv_X12_layState ⟨_, rfl, rfl⟩ h7 (c_X12_layState _ _ _ _ _) (by decide) (by decide) rfl (Nat.le_of_ble_eq_true rfl) (fun r12 _ => ?_)
        refine rhF.aload_n (pc := 50) dX12_least_50 0 rfl ?_
        refine rhF.callV (pc := 51) (ci := 12) (embc := rhe0I _ _) [] dX12_least_51 ml_X12_503 mv_X12_isEnd ⟨_, rfl, rfl⟩ h7 (c_X12_isEnd _ _ _ _) (by decide) (by decide) rfl (Nat.le_of_ble_eq_true rfl) (fun r13 _ => ?_)
        refine rhF.if_eq (pc := 54) 64 dX12_least_54 (by decide) (fun h14 => ?_) (fun h14 => ?_)
        · exact (b_X12_least_64 ih) _ _ _ _
        · refine rhF.aload_n (pc := 57) dX12_least_57 0 rfl ?_
          refine rhF.get (pc := 58) (rhR _) dX12_least_58 fl_X12_157 h7 rfl ?_
          refine rhF.iload_n (pc := 61) dX12_least_61 2 rfl ?_
          refine rhF.ck (fun h16 => ?_)
          refine rhF.ck (fun h17 => ?_)
          refine rhF.iald (pc := 62) dX12_least_62 h16 h17 ?_
          refine rhF.istore_n (pc := 63) (L' := [(1, rhI _), (0, rhR _), (2, rhI _)]) dX12_least_63 (by decide) rfl ?_
          refine rhF.sub [1, 0, 2] rfl ?_
          exact (b_X12_least_64 ih) _ _ _ _
      · refine rhF.sub [0, 1] rfl ?_
        exact hk70 _ _ _
    · refine rhF.sub [0, 1] rfl ?_
      exact hk70 _ _ _
set_option maxHeartbeats 4000000 in
set_option maxRecDepth 100000 in
theorem b_X12_least_78 {E : rhE} {Γ : rhG} {k104 : rhM → Nat → Int32 → Option (Int32 × rhM)} (hk104 : ∀ (M : rhM) (v0 : Nat) (v1 : Int32), rhF E 11 4 yX12_least cX12_least (some .int) Γ (rhe1I Γ) (k104 M v0 v1) 104 [(0, rhR v0), (1, rhI v1)] [] Γ M) : ∀ (n : Nat) (M : rhM) (v0 : Nat) (v1 : Int32) (v2 : Int32), rhF E 11 4 yX12_least cX12_least (some .int) Γ (rhe1I Γ) (f_X12_least_78 k104 Γ n M v0 v1 v2) 78 [(0, rhR v0), (1, rhI v1), (2, rhI v2)] [] Γ M := by
  intro n
  induction n with
  | zero => intro M v0 v1 v2; rw [f_X12_least_78]; exact rhF.nope
  | succ n ih =>
    intro M v0 v1 v2
    rw [f_X12_least_78]
    refine rhF.iload_n (pc := 78) dX12_least_78 2 rfl ?_
    refine rhF.aload_n (pc := 79) dX12_least_79 0 rfl ?_
    refine rhF.ck (fun h20 => ?_)
    refine rhF.get (pc := 80) (rhI _) dX12_least_80 fl_X12_537 h20 rfl ?_
    refine rhF.icmp_ge (pc := 83) 104 dX12_least_83 (by decide) (fun h21 => ?_) (fun h21 => ?_)
    · refine rhF.aload_n (pc := 86) dX12_least_86 0 rfl ?_
      refine rhF.get (pc := 87) (rhR _) dX12_least_87 fl_X12_139 h20 rfl ?_
      refine rhF.aload_n (pc := 90) dX12_least_90 0 rfl ?_
      refine rhF.get (pc := 91) (rhR _) dX12_least_91 fl_X12_157 h20 rfl ?_
      refine rhF.iload_n (pc := 94) dX12_least_94 2 rfl ?_
      refine rhF.ck (fun h22 => ?_)
      refine rhF.ck (fun h23 => ?_)
      refine rhF.iald (pc := 95) dX12_least_95 h22 h23 ?_
      refine rhF.iconst (pc := 96) (v := 0) dX12_least_96 (by decide) ?_
      refine rhF.ck (fun h24 => ?_)
      refine rhF.ck (fun h25 => ?_)
      refine rhF.zast (pc := 97) dX12_least_97 h24 h25 ?_
      refine rhF.iinc (pc := 98) (L' := [(2, rhI _), (0, rhR _), (1, rhI _)]) dX12_least_98 2 rfl rfl (by decide) rfl ?_
      refine rhF.goto (pc := 101) 78 dX12_least_101 (by decide) ?_
      refine rhF.sub [1, 2, 0] rfl ?_
      exact ih _ _ _ _
    · refine rhF.sub [0, 1] rfl ?_
      exact hk104 _ _ _
set_option maxHeartbeats 4000000 in
set_option maxRecDepth 100000 in
theorem b_X12_least_160 {E : rhE} {Γ : rhG} {k168 : rhM → Nat → Int32 → Int32 → Nat → Int32 → Option (Int32 × rhM)} {k173 : rhM → Nat → Int32 → Int32 → Nat → Int32 → Int32 → Option (Int32 × rhM)} (hk168 : ∀ (M : rhM) (v0 : Nat) (v1 : Int32) (v2 : Int32) (s0 : Nat) (s1 : Int32), rhF E 11 4 yX12_least cX12_least (some .int) Γ (rhe1I Γ) (k168 M v0 v1 v2 s0 s1) 168 [(0, rhR v0), (1, rhI v1), (2, rhI v2)] [rhI s1, rhR s0] Γ M) (hk173 : ∀ (M : rhM) (v0 : Nat) (v1 : Int32) (v2 : Int32) (s0 : Nat) (s1 : Int32) (s2 : Int32), rhF E 11 4 yX12_least cX12_least (some .int) Γ (rhe1I Γ) (k173 M v0 v1 v2 s0 s1 s2) 173 [(0, rhR v0), (1, rhI v1), (2, rhI v2)] [rhI s2, rhI s1, rhR s0] Γ M) : ∀ (M : rhM) (v0 : Nat) (v1 : Int32) (v2 : Int32) (v3 : Int32) (s0 : Nat) (s1 : Int32), rhF E 11 4 yX12_least cX12_least (some .int) Γ (rhe1I Γ) (f_X12_least_160 k168 k173 Γ M v0 v1 v2 v3 s0 s1) 160 [(0, rhR v0), (1, rhI v1), (2, rhI v2), (3, rhI v3)] [rhI s1, rhR s0] Γ M := by
  intro M v0 v1 v2 v3 s0 s1
  rw [f_X12_least_160]
  refine rhF.aload_n (pc := 160) dX12_least_160 0 rfl ?_
  refine rhF.iload_n (pc := 161) dX12_least_161 3 rfl ?_
  refine rhF.ck (fun h42 => ?_)
  refine rhF.callV (pc := 162) (ci := 12) (embc := rhe1I _) [rhI _] dX12_least_162 ml_X12_549 mv_X12_nextTight ⟨_, rfl, rfl⟩ h42 (c_X12_nextTight _ _ _ _ _) (by decide) (by decide) rfl (Nat.le_of_ble_eq_true rfl) (fun r43 _ => ?_)
  refine rhF.if_lt (pc := 165) 172 dX12_least_165 (by decide) (fun h44 => ?_) (fun h44 => ?_)
  · refine rhF.iconst (pc := 172) (v := 0) dX12_least_172 (by decide) ?_
    refine rhF.sub [0, 1, 2] rfl ?_
    exact hk173 _ _ _ _ _ _ _
  · refine rhF.sub [0, 1, 2] rfl ?_
    exact hk168 _ _ _ _ _ _
set_option maxHeartbeats 4000000 in
set_option maxRecDepth 100000 in
theorem b_X12_least_168 {E : rhE} {Γ : rhG} {k173 : rhM → Nat → Int32 → Int32 → Nat → Int32 → Int32 → Option (Int32 × rhM)} (hk173 : ∀ (M : rhM) (v0 : Nat) (v1 : Int32) (v2 : Int32) (s0 : Nat) (s1 : Int32) (s2 : Int32), rhF E 11 4 yX12_least cX12_least (some .int) Γ (rhe1I Γ) (k173 M v0 v1 v2 s0 s1 s2) 173 [(0, rhR v0), (1, rhI v1), (2, rhI v2)] [rhI s2, rhI s1, rhR s0] Γ M) : ∀ (M : rhM) (v0 : Nat) (v1 : Int32) (v2 : Int32) (s0 : Nat) (s1 : Int32), rhF E 11 4 yX12_least cX12_least (some .int) Γ (rhe1I Γ) (f_X12_least_168 k173 Γ M v0 v1 v2 s0 s1) 168 [(0, rhR v0), (1, rhI v1), (2, rhI v2)] [rhI s1, rhR s0] Γ M := by
  intro M v0 v1 v2 s0 s1
  rw [f_X12_least_168]
  refine rhF.iconst (pc := 168) (v := 1) dX12_least_168 (by decide) ?_
  refine rhF.goto (pc := 169) 173 dX12_least_169 (by decide) ?_
  exact hk173 _ _ _ _ _ _ _
set_option maxHeartbeats 4000000 in
set_option maxRecDepth 100000 in
theorem b_X12_least_173 {E : rhE} {Γ : rhG} {k174 : rhM → Nat → Int32 → Int32 → Option (Int32 × rhM)} (hk174 : ∀ (M : rhM) (v0 : Nat) (v1 : Int32) (v2 : Int32), rhF E 11 4 yX12_least cX12_least (some .int) Γ (rhe1I Γ) (k174 M v0 v1 v2) 174 [(0, rhR v0), (1, rhI v1), (2, rhI v2)] [] Γ M) : ∀ (M : rhM) (v0 : Nat) (v1 : Int32) (v2 : Int32) (s0 : Nat) (s1 : Int32) (s2 : Int32), rhF E 11 4 yX12_least cX12_least (some .int) Γ (rhe1I Γ) (f_X12_least_173 k174 Γ M v0 v1 v2 s0 s1 s2) 173 [(0, rhR v0), (1, rhI v1), (2, rhI v2)] [rhI s2, rhI s1, rhR s0] Γ M := by
  intro M v0 v1 v2 s0 s1 s2
  rw [f_X12_least_173]
  refine rhF.ck (fun h45 => ?_)
  refine rhF.ck (fun h46 => ?_)
  refine rhF.zast (pc := 173) dX12_least_173 h45 h46 ?_
  exact hk174 _ _ _ _
set_option maxHeartbeats 4000000 in
set_option maxRecDepth 100000 in
theorem b_X12_least_174 {E : rhE} {Γ : rhG} {k111 : rhM → Nat → Int32 → Int32 → Option (Int32 × rhM)} (hk111 : ∀ (M : rhM) (v0 : Nat) (v1 : Int32) (v2 : Int32), rhF E 11 4 yX12_least cX12_least (some .int) Γ (rhe1I Γ) (k111 M v0 v1 v2) 111 [(0, rhR v0), (1, rhI v1), (2, rhI v2)] [] Γ M) : ∀ (M : rhM) (v0 : Nat) (v1 : Int32) (v2 : Int32), rhF E 11 4 yX12_least cX12_least (some .int) Γ (rhe1I Γ) (f_X12_least_174 k111 Γ M v0 v1 v2) 174 [(0, rhR v0), (1, rhI v1), (2, rhI v2)] [] Γ M := by
  intro M v0 v1 v2
  rw [f_X12_least_174]
  refine rhF.iinc (pc := 174) (L' := [(2, rhI _), (0, rhR _), (1, rhI _)]) dX12_least_174 2 rfl rfl (by decide) rfl ?_
  refine rhF.goto (pc := 177) 111 dX12_least_177 (by decide) ?_
  refine rhF.sub [1, 2, 0] rfl ?_
  exact hk111 _ _ _ _
set_option maxHeartbeats 4000000 in
set_option maxRecDepth 100000 in
theorem b_X12_least_111 {E : rhE} {Γ : rhG} {k180 : rhM → Nat → Int32 → Option (Int32 × rhM)} (hk180 : ∀ (M : rhM) (v0 : Nat) (v1 : Int32), rhF E 11 4 yX12_least cX12_least (some .int) Γ (rhe1I Γ) (k180 M v0 v1) 180 [(0, rhR v0), (1, rhI v1)] [] Γ M) : ∀ (n : Nat) (M : rhM) (v0 : Nat) (v1 : Int32) (v2 : Int32), rhF E 11 4 yX12_least cX12_least (some .int) Γ (rhe1I Γ) (f_X12_least_111 k180 Γ n M v0 v1 v2) 111 [(0, rhR v0), (1, rhI v1), (2, rhI v2)] [] Γ M := by
  intro n
  induction n with
  | zero => intro M v0 v1 v2; rw [f_X12_least_111]; exact rhF.nope
  | succ n ih =>
    intro M v0 v1 v2
    rw [f_X12_least_111]
    refine rhF.iload_n (pc := 111) dX12_least_111 2 rfl ?_
    refine rhF.if_lt (pc := 112) 180 dX12_least_112 (by decide) (fun h30 => ?_) (fun h30 => ?_)
    · refine rhF.sub [0, 1] rfl ?_
      exact hk180 _ _ _
    · refine rhF.aload_n (pc := 115) dX12_least_115 0 rfl ?_
      refine rhF.ck (fun h31 => ?_)
      refine rhF.get (pc := 116) (rhR _) dX12_least_116 fl_X12_157 h31 rfl ?_
      refine rhF.iload_n (pc := 119) dX12_least_119 2 rfl ?_
      refine rhF.ck (fun h32 => ?_)
      refine rhF.ck (fun h33 => ?_)
      refine rhF.iald (pc := 120) dX12_least_120 h32 h33 ?_
      refine rhF.istore_n (pc := 121) (L' := [(3, rhI _), (0, rhR _), (1, rhI _), (2, rhI _)]) dX12_least_121 (by decide) rfl ?_
      refine rhF.aload_n (pc := 122) dX12_least_122 1 rfl ?_
      refine rhF.iload_n (pc := 123) dX12_least_123 2 rfl ?_
      refine rhF.iload_n (pc := 124) dX12_least_124 0 rfl ?_
      refine rhF.callV (pc := 125) (ci := 12) (embc := rhe0I _ _) [rhI _, rhI _] dX12_least_125 ml_X12_524 mv_X12_isBefore ⟨_, rfl, rfl⟩ h31 (c_X12_isBefore _ _ _ _ _ _) (by decide) (by decide) rfl (Nat.le_of_ble_eq_true rfl) (fun r35 _ => ?_)
      refine rhF.if_eq (pc := 128) 134 dX12_least_128 (by decide) (fun h36 => ?_) (fun h36 => ?_)
      · refine rhF.aload_n (pc := 134) dX12_least_134 1 rfl ?_
        refine rhF.iload_n (pc := 135) dX12_least_135 0 rfl ?_
        refine rhF.callV (pc := 136) (ci := 12) (embc := rhe1U _) [rhI _] dX12_least_136 ml_X12_499 mv_X12_layState ⟨_, rfl, rfl⟩ h31 (c_X12_layState _ _ _ _ _) (by decide) (by decide) rfl (Nat.le_of_ble_eq_true rfl) (fun r37 _ => ?_)
        refine rhF.aload_n (pc := 139) dX12_least_139 1 rfl ?_
        refine rhF.get (pc := 140) (rhR _) dX12_least_140 fl_X12_139 h31 rfl ?_
        refine rhF.iload_n (pc := 143) dX12_least_143 0 rfl ?_
        refine rhF.aload_n (pc := 144) dX12_least_144 1 rfl ?_
        refine rhF.iload_n (pc := 145) dX12_least_145 0 rfl ?_
        refine rhF.iload_n (pc := 146) dX12_least_146 2 rfl ?_
        refine rhF.callV (pc := 147) (ci := 12) (embc := rhe0I _ _) [rhI _, rhI _] dX12_least_147 ml_X12_524 mv_X12_isBefore ⟨_, rfl, rfl⟩ h31 (c_X12_isBefore _ _ _ _ _ _) (by decide) (by decide) rfl (Nat.le_of_ble_eq_true rfl) (fun r38 _ => ?_)
        refine rhF.if_ne (pc := 150) 160 dX12_least_150 (by decide) (fun h39 => ?_) (fun h39 => ?_)
        · refine rhF.aload_n (pc := 153) dX12_least_153 1 rfl ?_
          refine rhF.callV (pc := 154) (ci := 12) (embc := rhe0I _ _) [] dX12_least_154 ml_X12_503 mv_X12_isEnd ⟨_, rfl, rfl⟩ h31 (c_X12_isEnd _ _ _ _) (by decide) (by decide) rfl (Nat.le_of_ble_eq_true rfl) (fun r40 _ => ?_)
          refine rhF.if_ne (pc := 157) 168 dX12_least_157 (by decide) (fun h41 => ?_) (fun h41 => ?_)
          · refine rhF.sub [1, 2, 3, 0] rfl ?_
            exact (b_X12_least_160 (b_X12_least_168 (b_X12_least_173 (b_X12_least_174 ih))) (b_X12_least_173 (b_X12_least_174 ih))) _ _ _ _ _ _ _
          · refine rhF.sub [1, 2, 3] rfl ?_
            exact (b_X12_least_168 (b_X12_least_173 (b_X12_least_174 ih))) _ _ _ _ _ _
        · refine rhF.sub [1, 2, 3, 0] rfl ?_
          exact (b_X12_least_160 (b_X12_least_168 (b_X12_least_173 (b_X12_least_174 ih))) (b_X12_least_173 (b_X12_least_174 ih))) _ _ _ _ _ _ _
      · refine rhF.goto (pc := 131) 174 dX12_least_131 (by decide) ?_
        refine rhF.sub [1, 2, 3] rfl ?_
        exact (b_X12_least_174 ih) _ _ _ _
set_option maxHeartbeats 4000000 in
set_option maxRecDepth 100000 in
theorem b_X12_least_180 {E : rhE} {Γ : rhG} : ∀ (M : rhM) (v0 : Nat) (v1 : Int32), rhF E 11 4 yX12_least cX12_least (some .int) Γ (rhe1I Γ) (f_X12_least_180 Γ M v0 v1) 180 [(0, rhR v0), (1, rhI v1)] [] Γ M := by
  intro M v0 v1
  rw [f_X12_least_180]
  refine rhF.aload_n (pc := 180) dX12_least_180 0 rfl ?_
  refine rhF.ck (fun h49 => ?_)
  refine rhF.callV (pc := 181) (ci := 12) (embc := rhe1U _) [] dX12_least_181 ml_X12_552 mv_X12_layLightest ⟨_, rfl, rfl⟩ h49 (c_X12_layLightest _ _ _ _) (by decide) (by decide) rfl (Nat.le_of_ble_eq_true rfl) (fun r50 _ => ?_)
  refine rhF.aload_n (pc := 184) dX12_least_184 0 rfl ?_
  refine rhF.get (pc := 185) (rhR _) dX12_least_185 fl_X12_132 h49 rfl ?_
  refine rhF.iload_n (pc := 188) dX12_least_188 1 rfl ?_
  refine rhF.ck (fun h51 => ?_)
  refine rhF.ck (fun h52 => ?_)
  refine rhF.iald (pc := 189) dX12_least_189 h51 h52 ?_
  exact rhF.zret (pc := 190) dX12_least_190 rfl rfl rfl
set_option maxHeartbeats 4000000 in
set_option maxRecDepth 100000 in
theorem b_X12_least_104 {E : rhE} {Γ : rhG} : ∀ (M : rhM) (v0 : Nat) (v1 : Int32), rhF E 11 4 yX12_least cX12_least (some .int) Γ (rhe1I Γ) (f_X12_least_104 Γ M v0 v1) 104 [(0, rhR v0), (1, rhI v1)] [] Γ M := by
  intro M v0 v1
  rw [f_X12_least_104]
  refine rhF.aload_n (pc := 104) dX12_least_104 0 rfl ?_
  refine rhF.ck (fun h28 => ?_)
  refine rhF.get (pc := 105) (rhI _) dX12_least_105 fl_X12_537 h28 rfl ?_
  refine rhF.iconst (pc := 108) (v := 1) dX12_least_108 (by decide) ?_
  refine rhF.isub (pc := 109) dX12_least_109 ?_
  refine rhF.istore_n (pc := 110) (L' := [(2, rhI _), (0, rhR _), (1, rhI _)]) dX12_least_110 (by decide) rfl ?_
  refine rhF.sub [1, 2, 0] rfl ?_
  exact (b_X12_least_111 (b_X12_least_180) rhFU) _ _ _ _
set_option maxHeartbeats 4000000 in
set_option maxRecDepth 100000 in
theorem b_X12_least_70 {E : rhE} {Γ : rhG} : ∀ (M : rhM) (v0 : Nat) (v1 : Int32), rhF E 11 4 yX12_least cX12_least (some .int) Γ (rhe1I Γ) (f_X12_least_70 Γ M v0 v1) 70 [(0, rhR v0), (1, rhI v1)] [] Γ M := by
  intro M v0 v1
  rw [f_X12_least_70]
  refine rhF.iload_n (pc := 70) dX12_least_70 1 rfl ?_
  refine rhF.if_ge (pc := 71) 76 dX12_least_71 (by decide) (fun h19 => ?_) (fun h19 => ?_)
  · refine rhF.iconst (pc := 74) (v := (-1)) dX12_least_74 (by decide) ?_
    exact rhF.zret (pc := 75) dX12_least_75 rfl rfl rfl
  · refine rhF.iconst (pc := 76) (v := 0) dX12_least_76 (by decide) ?_
    refine rhF.istore_n (pc := 77) (L' := [(2, rhI _), (0, rhR _), (1, rhI _)]) dX12_least_77 (by decide) rfl ?_
    refine rhF.sub [1, 2, 0] rfl ?_
    exact (b_X12_least_78 (b_X12_least_104) rhFU) _ _ _ _
set_option maxHeartbeats 4000000 in
set_option maxRecDepth 100000 in
theorem b_X12_least {E : rhE} {Γ : rhG} : ∀ (M : rhM) (v0 : Nat), rhF E 11 4 yX12_least cX12_least (some .int) Γ (rhe1I Γ) (f_X12_least Γ M v0) 0 [(0, rhR v0)] [] Γ M := by
  intro M v0
  rw [f_X12_least]
  refine rhF.aload_n (pc := 0) dX12_least_0 0 rfl ?_
  refine rhF.iconst (pc := 1) (v := 0) dX12_least_1 (by decide) ?_
  refine rhF.ck (fun h1 => ?_)
  refine rhF.puti (pc := 2) dX12_least_2 fl_X12_342 h1 (fun q hq => by cases hq; exact Or.inl rfl) ⟨rfl, rfl⟩ (fun _ => rfl) ?_
  refine rhF.aload_n (pc := 5) dX12_least_5 0 rfl ?_
  refine rhF.callV (pc := 6) (ci := 12) (embc := rhe0I _ _) [] dX12_least_6 ml_X12_515 mv_X12_isMany ⟨_, rfl, rfl⟩ h1 (c_X12_isMany _ _ _ _) (by decide) (by decide) rfl (Nat.le_of_ble_eq_true rfl) (fun r3 _ => ?_)
  refine rhF.if_eq (pc := 9) 15 dX12_least_9 (by decide) (fun h4 => ?_) (fun h4 => ?_)
  · refine rhF.aload_n (pc := 15) dX12_least_15 0 rfl ?_
    refine rhF.callV (pc := 16) (ci := 12) (embc := rhe1U _) [] dX12_least_16 ml_X12_546 mv_X12_settle ⟨_, rfl, rfl⟩ h1 (c_X12_settle _ _ _ _) (by decide) (by decide) rfl (Nat.le_of_ble_eq_true rfl) (fun r5 _ => ?_)
    refine rhF.aload_n (pc := 19) dX12_least_19 0 rfl ?_
    refine rhF.iconst (pc := 20) (v := 0) dX12_least_20 (by decide) ?_
    refine rhF.puti (pc := 21) dX12_least_21 fl_X12_481 h1 (fun q hq => by cases hq; exact Or.inl rfl) ⟨rfl, rfl⟩ (fun _ => rfl) ?_
    refine rhF.iconst (pc := 24) (v := (-1)) dX12_least_24 (by decide) ?_
    refine rhF.istore_n (pc := 25) (L' := [(1, rhI _), (0, rhR _)]) dX12_least_25 (by decide) rfl ?_
    refine rhF.iconst (pc := 26) (v := 0) dX12_least_26 (by decide) ?_
    refine rhF.istore_n (pc := 27) (L' := [(2, rhI _), (1, rhI _), (0, rhR _)]) dX12_least_27 (by decide) rfl ?_
    refine rhF.sub [2, 1, 0] rfl ?_
    exact (b_X12_least_28 (b_X12_least_70) rhFU) _ _ _ _
  · refine rhF.bipush (pc := 12) (v := (-2)) dX12_least_12 (by decide) ?_
    exact rhF.zret (pc := 14) dX12_least_14 rfl rfl rfl
theorem c_X12_least (E : rhE) (Γ : rhG) (M : rhM) (v0 : Nat) : ∀ a, f_X12_least Γ M v0 = some a → rhC E 11 yX12_least cX12_least 4 (some .int) [rhR v0] Γ M ((rhe1I Γ) a) := rhF.met (by decide +kernel) (Nat.le_of_ble_eq_true rfl) (b_X12_least M v0)
def f_X12_open (Γ : rhG) (M : rhM) (v0 : Nat) : Option (Int32 × rhM) :=
  rhck (Γ.2.2.1 v0 = 13) <|
  let x2 := M.1 v0 53
  let M3 := rhsi M v0 53 0
  some ((x2, M3))
set_option maxHeartbeats 4000000 in
set_option maxRecDepth 100000 in
theorem b_X12_open {E : rhE} {Γ : rhG} : ∀ (M : rhM) (v0 : Nat), rhF E 1 2 yX12_open cX12_open (some .int) Γ (rhe1I Γ) (f_X12_open Γ M v0) 0 [(0, rhR v0)] [] Γ M := by
  intro M v0
  rw [f_X12_open]
  refine rhF.aload_n (pc := 0) dX12_open_0 0 rfl ?_
  refine rhF.ck (fun h1 => ?_)
  refine rhF.get (pc := 1) (rhI _) dX12_open_1 fl_X12_339 h1 rfl ?_
  refine rhF.istore_n (pc := 4) (L' := [(1, rhI _), (0, rhR _)]) dX12_open_4 (by decide) rfl ?_
  refine rhF.aload_n (pc := 5) dX12_open_5 1 rfl ?_
  refine rhF.iconst (pc := 6) (v := 0) dX12_open_6 (by decide) ?_
  refine rhF.puti (pc := 7) dX12_open_7 fl_X12_339 h1 (fun q hq => by cases hq; exact Or.inl rfl) ⟨rfl, rfl⟩ (fun _ => rfl) ?_
  refine rhF.iload_n (pc := 10) dX12_open_10 0 rfl ?_
  exact rhF.zret (pc := 11) dX12_open_11 rfl rfl rfl
theorem c_X12_open (E : rhE) (Γ : rhG) (M : rhM) (v0 : Nat) : ∀ a, f_X12_open Γ M v0 = some a → rhC E 1 yX12_open cX12_open 2 (some .int) [rhR v0] Γ M ((rhe1I Γ) a) := rhF.met (by decide +kernel) (Nat.le_of_ble_eq_true rfl) (b_X12_open M v0)
def f_X12_fault (Γ : rhG) (M : rhM) (v0 : Nat) (v1 : Int32) : Option (Int32) :=
  if v1 = 0 then
    (rhck (Γ.2.2.1 v0 = 13) <|
    some (M.1 v0 4))
  else
    if v1 = 1 then
      (rhck (Γ.2.2.1 v0 = 13) <|
      some (M.1 v0 5))
    else
      some ((-1))
set_option maxHeartbeats 4000000 in
set_option maxRecDepth 100000 in
theorem b_X12_fault {E : rhE} {Γ : rhG} {M : rhM} : ∀ (v0 : Nat) (v1 : Int32), rhF E 1 2 yX12_fault cX12_fault (some .int) Γ (rhe0I Γ M) (f_X12_fault Γ M v0 v1) 0 [(0, rhR v0), (1, rhI v1)] [] Γ M := by
  intro v0 v1
  rw [f_X12_fault]
  refine rhF.iload_n (pc := 0) dX12_fault_0 1 rfl ?_
  refine rhF.if_ne (pc := 1) 11 dX12_fault_1 (by decide) (fun h1 => ?_) (fun h1 => ?_)
  · refine rhF.aload_n (pc := 4) dX12_fault_4 0 rfl ?_
    refine rhF.ck (fun h2 => ?_)
    refine rhF.get (pc := 5) (rhI _) dX12_fault_5 fl_X12_217 h2 rfl ?_
    refine rhF.goto (pc := 8) 24 dX12_fault_8 (by decide) ?_
    exact rhF.zret (pc := 24) dX12_fault_24 rfl rfl rfl
  · refine rhF.iload_n (pc := 11) dX12_fault_11 1 rfl ?_
    refine rhF.iconst (pc := 12) (v := 1) dX12_fault_12 (by decide) ?_
    refine rhF.icmp_ne (pc := 13) 23 dX12_fault_13 (by decide) (fun h3 => ?_) (fun h3 => ?_)
    · refine rhF.aload_n (pc := 16) dX12_fault_16 0 rfl ?_
      refine rhF.ck (fun h4 => ?_)
      refine rhF.get (pc := 17) (rhI _) dX12_fault_17 fl_X12_16 h4 rfl ?_
      refine rhF.goto (pc := 20) 24 dX12_fault_20 (by decide) ?_
      exact rhF.zret (pc := 24) dX12_fault_24 rfl rfl rfl
    · refine rhF.iconst (pc := 23) (v := (-1)) dX12_fault_23 (by decide) ?_
      exact rhF.zret (pc := 24) dX12_fault_24 rfl rfl rfl
theorem c_X12_fault (E : rhE) (Γ : rhG) (M : rhM) (v0 : Nat) (v1 : Int32) : ∀ a, f_X12_fault Γ M v0 v1 = some a → rhC E 1 yX12_fault cX12_fault 2 (some .int) [rhR v0, rhI v1] Γ M ((rhe0I Γ M) a) := rhF.met (by decide +kernel) (Nat.le_of_ble_eq_true rfl) (b_X12_fault v0 v1)
def f_X12_untell (Γ : rhG) (M : rhM) (v0 : Nat) (v1 : Int32) : Option (Int32 × rhM) :=
  rhck (Γ.2.2.1 v0 = 13) <|
  (f_X12_isIn Γ M v1 (0 : Int32) ((M.1 v0 82) - 1)).bind fun r2 =>
  if r2 = 0 then
    (some ((0, M)))
  else
    rhck (Γ.2.2.1 (M.2.2 v0 76) = 15) <|
    rhck (0 ≤ (v1).toInt ∧ (v1).toInt < (Γ.2.2.2 (M.2.2 v0 76) : Nat)) <|
    if (M.1 (M.2.2 v0 76) v1.toNatClampNeg) < 0 then
      (let M7 := rhsi M (M.2.2 v0 76) (v1 : Int32).toNatClampNeg (M.1 v0 83)
      some ((1, M7)))
    else
      some ((0, M))
set_option maxHeartbeats 4000000 in
set_option maxRecDepth 100000 in
theorem b_X12_untell {E : rhE} {Γ : rhG} : ∀ (M : rhM) (v0 : Nat) (v1 : Int32), rhF E 5 2 yX12_untell cX12_untell (some .boolean) Γ (rhe1I Γ) (f_X12_untell Γ M v0 v1) 0 [(0, rhR v0), (1, rhI v1)] [] Γ M := by
  intro M v0 v1
  rw [f_X12_untell]
  refine rhF.iload_n (pc := 0) dX12_untell_0 1 rfl ?_
  refine rhF.iconst (pc := 1) (v := 0) dX12_untell_1 (by decide) ?_
  refine rhF.aload_n (pc := 2) dX12_untell_2 0 rfl ?_
  refine rhF.ck (fun h1 => ?_)
  refine rhF.get (pc := 3) (rhI _) dX12_untell_3 fl_X12_333 h1 rfl ?_
  refine rhF.iconst (pc := 6) (v := 1) dX12_untell_6 (by decide) ?_
  refine rhF.isub (pc := 7) dX12_untell_7 ?_
  refine rhF.callS (pc := 8) (embc := rhe0I _ _) [rhI _, rhI _, rhI _] dX12_untell_8 ml_X12_415 ms_X12_isIn (c_X12_isIn _ _ _ _ _ _) (by decide) (by decide) rfl (Nat.le_of_ble_eq_true rfl) (fun r2 _ => ?_)
  refine rhF.if_eq (pc := 11) 23 dX12_untell_11 (by decide) (fun h3 => ?_) (fun h3 => ?_)
  · refine rhF.iconst (pc := 23) (v := 0) dX12_untell_23 (by decide) ?_
    exact rhF.zret (pc := 24) dX12_untell_24 rfl rfl rfl
  · refine rhF.aload_n (pc := 14) dX12_untell_14 0 rfl ?_
    refine rhF.get (pc := 15) (rhR _) dX12_untell_15 fl_X12_172 h1 rfl ?_
    refine rhF.iload_n (pc := 18) dX12_untell_18 1 rfl ?_
    refine rhF.ck (fun h4 => ?_)
    refine rhF.ck (fun h5 => ?_)
    refine rhF.iald (pc := 19) dX12_untell_19 h4 h5 ?_
    refine rhF.if_lt (pc := 20) 25 dX12_untell_20 (by decide) (fun h6 => ?_) (fun h6 => ?_)
    · refine rhF.aload_n (pc := 25) dX12_untell_25 0 rfl ?_
      refine rhF.get (pc := 26) (rhR _) dX12_untell_26 fl_X12_172 h1 rfl ?_
      refine rhF.iload_n (pc := 29) dX12_untell_29 1 rfl ?_
      refine rhF.aload_n (pc := 30) dX12_untell_30 0 rfl ?_
      refine rhF.get (pc := 31) (rhI _) dX12_untell_31 fl_X12_555 h1 rfl ?_
      refine rhF.iast (pc := 34) dX12_untell_34 h4 h5 ?_
      refine rhF.iconst (pc := 35) (v := 1) dX12_untell_35 (by decide) ?_
      exact rhF.zret (pc := 36) dX12_untell_36 rfl rfl rfl
    · refine rhF.iconst (pc := 23) (v := 0) dX12_untell_23 (by decide) ?_
      exact rhF.zret (pc := 24) dX12_untell_24 rfl rfl rfl
theorem c_X12_untell (E : rhE) (Γ : rhG) (M : rhM) (v0 : Nat) (v1 : Int32) : ∀ a, f_X12_untell Γ M v0 v1 = some a → rhC E 5 yX12_untell cX12_untell 2 (some .boolean) [rhR v0, rhI v1] Γ M ((rhe1I Γ) a) := rhF.met (by decide +kernel) (Nat.le_of_ble_eq_true rfl) (b_X12_untell M v0 v1)
def f_X12_later (Γ : rhG) (M : rhM) (v0 : Nat) (v1 : Int32) : Option (Int32 × rhM) :=
  (f_X12_isIn Γ M v1 (0 : Int32) (1000 : Int32)).bind fun r1 =>
  if r1 = 0 then
    (some (((-1), M)))
  else
    rhck (Γ.2.2.1 v0 = 13) <|
    if 100000 < ((M.1 v0 83) + v1) then
      (some (((-1), M)))
    else
      let M5 := rhsi M v0 83 ((M.1 v0 83) + v1)
      some ((M5.1 v0 83, M5))
set_option maxHeartbeats 4000000 in
set_option maxRecDepth 100000 in
theorem b_X12_later {E : rhE} {Γ : rhG} : ∀ (M : rhM) (v0 : Nat) (v1 : Int32), rhF E 5 2 yX12_later cX12_later (some .int) Γ (rhe1I Γ) (f_X12_later Γ M v0 v1) 0 [(0, rhR v0), (1, rhI v1)] [] Γ M := by
  intro M v0 v1
  rw [f_X12_later]
  refine rhF.iload_n (pc := 0) dX12_later_0 1 rfl ?_
  refine rhF.iconst (pc := 1) (v := 0) dX12_later_1 (by decide) ?_
  refine rhF.sipush (pc := 2) (v := 1000) dX12_later_2 (by decide) ?_
  refine rhF.callS (pc := 5) (embc := rhe0I _ _) [rhI _, rhI _, rhI _] dX12_later_5 ml_X12_415 ms_X12_isIn (c_X12_isIn _ _ _ _ _ _) (by decide) (by decide) rfl (Nat.le_of_ble_eq_true rfl) (fun r1 _ => ?_)
  refine rhF.if_eq (pc := 8) 23 dX12_later_8 (by decide) (fun h2 => ?_) (fun h2 => ?_)
  · refine rhF.iconst (pc := 23) (v := (-1)) dX12_later_23 (by decide) ?_
    exact rhF.zret (pc := 24) dX12_later_24 rfl rfl rfl
  · refine rhF.aload_n (pc := 11) dX12_later_11 0 rfl ?_
    refine rhF.ck (fun h3 => ?_)
    refine rhF.get (pc := 12) (rhI _) dX12_later_12 fl_X12_555 h3 rfl ?_
    refine rhF.iload_n (pc := 15) dX12_later_15 1 rfl ?_
    refine rhF.iadd (pc := 16) dX12_later_16 ?_
    refine rhF.ldcw (pc := 17) dX12_later_17 k_X12_558 ?_
    refine rhF.icmp_le (pc := 20) 25 dX12_later_20 (by decide) (fun h4 => ?_) (fun h4 => ?_)
    · refine rhF.iconst (pc := 23) (v := (-1)) dX12_later_23 (by decide) ?_
      exact rhF.zret (pc := 24) dX12_later_24 rfl rfl rfl
    · refine rhF.aload_n (pc := 25) dX12_later_25 0 rfl ?_
      refine rhF.dupr (pc := 26) dX12_later_26 ?_
      refine rhF.get (pc := 27) (rhI _) dX12_later_27 fl_X12_555 h3 rfl ?_
      refine rhF.iload_n (pc := 30) dX12_later_30 1 rfl ?_
      refine rhF.iadd (pc := 31) dX12_later_31 ?_
      refine rhF.puti (pc := 32) dX12_later_32 fl_X12_555 h3 (fun q hq => by cases hq; exact Or.inl rfl) ⟨rfl, rfl⟩ (fun _ => rfl) ?_
      refine rhF.aload_n (pc := 35) dX12_later_35 0 rfl ?_
      refine rhF.get (pc := 36) (rhI _) dX12_later_36 fl_X12_555 h3 rfl ?_
      exact rhF.zret (pc := 39) dX12_later_39 rfl rfl rfl
theorem c_X12_later (E : rhE) (Γ : rhG) (M : rhM) (v0 : Nat) (v1 : Int32) : ∀ a, f_X12_later Γ M v0 v1 = some a → rhC E 5 yX12_later cX12_later 2 (some .int) [rhR v0, rhI v1] Γ M ((rhe1I Γ) a) := rhF.met (by decide +kernel) (Nat.le_of_ble_eq_true rfl) (b_X12_later M v0 v1)
def f_X12_can (Γ : rhG) (M : rhM) (v0 : Nat) (v1 : Int32) (v2 : Int32) (v3 : Int32) : Option (Int32 × rhM) :=
  rhck (Γ.2.2.1 v0 = 13) <|
  (f_X12_isHouse Γ M v0 v1).bind fun r2 =>
  if r2 = 0 then
    (some (((-1), M)))
  else
    (f_X12_isIn Γ M v2 (0 : Int32) (3 : Int32)).bind fun r4 =>
    if r4 = 0 then
      (some (((-1), M)))
    else
      (f_X12_rowsOf Γ M v0 v2 v3).bind fun r6 =>
      rhck (Γ.2.2.1 (r6.2.2.2 v0 77) = 15) <|
      rhck (0 ≤ (v1).toInt ∧ (v1).toInt < (Γ.2.2.2 (r6.2.2.2 v0 77) : Nat)) <|
      some ((r6.2.1 (r6.2.2.2 v0 77) v1.toNatClampNeg, r6.2))
set_option maxHeartbeats 4000000 in
set_option maxRecDepth 100000 in
theorem b_X12_can {E : rhE} {Γ : rhG} : ∀ (M : rhM) (v0 : Nat) (v1 : Int32) (v2 : Int32) (v3 : Int32), rhF E 11 4 yX12_can cX12_can (some .int) Γ (rhe1I Γ) (f_X12_can Γ M v0 v1 v2 v3) 0 [(0, rhR v0), (1, rhI v1), (2, rhI v2), (3, rhI v3)] [] Γ M := by
  intro M v0 v1 v2 v3
  rw [f_X12_can]
  refine rhF.aload_n (pc := 0) dX12_can_0 0 rfl ?_
  refine rhF.iload_n (pc := 1) dX12_can_1 1 rfl ?_
  refine rhF.ck (fun h1 => ?_)
  refine rhF.callV (pc := 2) (ci := 12) (embc := rhe0I _ _) [rhI _] dX12_can_2 ml_X12_464 mv_X12_isHouse ⟨_, rfl, rfl⟩ h1 (c_X12_isHouse _ _ _ _ _) (by decide) (by decide) rfl (Nat.le_of_ble_eq_true rfl) (fun r2 _ => ?_)
  refine rhF.if_eq (pc := 5) 17 dX12_can_5 (by decide) (fun h3 => ?_) (fun h3 => ?_)
  · refine rhF.iconst (pc := 17) (v := (-1)) dX12_can_17 (by decide) ?_
    exact rhF.zret (pc := 18) dX12_can_18 rfl rfl rfl
  · refine rhF.iload_n (pc := 8) dX12_can_8 2 rfl ?_
    refine rhF.iconst (pc := 9) (v := 0) dX12_can_9 (by decide) ?_
    refine rhF.iconst (pc := 10) (v := 3) dX12_can_10 (by decide) ?_
    refine rhF.callS (pc := 11) (embc := rhe0I _ _) [rhI _, rhI _, rhI _] dX12_can_11 ml_X12_415 ms_X12_isIn (c_X12_isIn _ _ _ _ _ _) (by decide) (by decide) rfl (Nat.le_of_ble_eq_true rfl) (fun r4 _ => ?_)
    refine rhF.if_ne (pc := 14) 19 dX12_can_14 (by decide) (fun h5 => ?_) (fun h5 => ?_)
    · refine rhF.iconst (pc := 17) (v := (-1)) dX12_can_17 (by decide) ?_
      exact rhF.zret (pc := 18) dX12_can_18 rfl rfl rfl
    · refine rhF.aload_n (pc := 19) dX12_can_19 0 rfl ?_
      refine rhF.iload_n (pc := 20) dX12_can_20 2 rfl ?_
      refine rhF.iload_n (pc := 21) dX12_can_21 3 rfl ?_
      refine rhF.callV (pc := 22) (ci := 12) (embc := rhe1I _) [rhI _, rhI _] dX12_can_22 ml_X12_577 mv_X12_rowsOf ⟨_, rfl, rfl⟩ h1 (c_X12_rowsOf _ _ _ _ _ _) (by decide) (by decide) rfl (Nat.le_of_ble_eq_true rfl) (fun r6 _ => ?_)
      refine rhF.pop (pc := 25) dX12_can_25 ?_
      refine rhF.aload_n (pc := 26) dX12_can_26 0 rfl ?_
      refine rhF.get (pc := 27) (rhR _) dX12_can_27 fl_X12_175 h1 rfl ?_
      refine rhF.iload_n (pc := 30) dX12_can_30 1 rfl ?_
      refine rhF.ck (fun h7 => ?_)
      refine rhF.ck (fun h8 => ?_)
      refine rhF.iald (pc := 31) dX12_can_31 h7 h8 ?_
      exact rhF.zret (pc := 32) dX12_can_32 rfl rfl rfl
theorem c_X12_can (E : rhE) (Γ : rhG) (M : rhM) (v0 : Nat) (v1 : Int32) (v2 : Int32) (v3 : Int32) : ∀ a, f_X12_can Γ M v0 v1 v2 v3 = some a → rhC E 11 yX12_can cX12_can 4 (some .int) [rhR v0, rhI v1, rhI v2, rhI v3] Γ M ((rhe1I Γ) a) := rhF.met (by decide +kernel) (Nat.le_of_ble_eq_true rfl) (b_X12_can M v0 v1 v2 v3)
def f_X12_on_32 (Γ : rhG) (M : rhM) (v0 : Nat) (v1 : Int32) (v2 : Int32) (s0 : Int32) (s1 : Int32) (s2 : Int32) (s3 : Int32) : Option (Int32) :=
  (f_X12_isIn Γ M s0 s1 ((s2 - s3) - 1)).bind fun r7 =>
  if r7 = 0 then
    (some ((-1)))
  else
    rhck (Γ.2.2.1 v0 = 13) <|
    if v1 = 0 then
      (rhck (Γ.2.2.1 (M.2.2 v0 42) = 15) <|
      rhck (0 ≤ (0 + v2).toInt ∧ (0 + v2).toInt < (Γ.2.2.2 (M.2.2 v0 42) : Nat)) <|
      some (M.1 (M.2.2 v0 42) (0 + v2).toNatClampNeg))
    else
      rhck (Γ.2.2.1 (M.2.2 v0 43) = 15) <|
      rhck (0 ≤ (v1 - 1).toInt ∧ (v1 - 1).toInt < (Γ.2.2.2 (M.2.2 v0 43) : Nat)) <|
      rhck (Γ.2.2.1 (M.2.2 v0 42) = 15) <|
      rhck (0 ≤ ((M.1 (M.2.2 v0 43) (v1 - 1).toNatClampNeg) + v2).toInt ∧ ((M.1 (M.2.2 v0 43) (v1 - 1).toNatClampNeg) + v2).toInt < (Γ.2.2.2 (M.2.2 v0 42) : Nat)) <|
      some (M.1 (M.2.2 v0 42) ((M.1 (M.2.2 v0 43) (v1 - 1).toNatClampNeg) + v2).toNatClampNeg)
def f_X12_on (Γ : rhG) (M : rhM) (v0 : Nat) (v1 : Int32) (v2 : Int32) : Option (Int32) :=
  rhck (Γ.2.2.1 v0 = 13) <|
  (f_X12_isRail Γ M v0 v1).bind fun r2 =>
  if r2 = 0 then
    (some ((-1)))
  else
    rhck (Γ.2.2.1 (M.2.2 v0 43) = 15) <|
    rhck (0 ≤ (v1).toInt ∧ (v1).toInt < (Γ.2.2.2 (M.2.2 v0 43) : Nat)) <|
    if v1 = 0 then
      (f_X12_on_32 Γ M v0 v1 v2 v2 0 (M.1 (M.2.2 v0 43) v1.toNatClampNeg) 0)
    else
      rhck (0 ≤ (v1 - 1).toInt ∧ (v1 - 1).toInt < (Γ.2.2.2 (M.2.2 v0 43) : Nat)) <|
      f_X12_on_32 Γ M v0 v1 v2 v2 0 (M.1 (M.2.2 v0 43) v1.toNatClampNeg) (M.1 (M.2.2 v0 43) (v1 - 1).toNatClampNeg)
set_option maxHeartbeats 4000000 in
set_option maxRecDepth 100000 in
theorem b_X12_on_32 {E : rhE} {Γ : rhG} {M : rhM} : ∀ (v0 : Nat) (v1 : Int32) (v2 : Int32) (s0 : Int32) (s1 : Int32) (s2 : Int32) (s3 : Int32), rhF E 6 3 yX12_on cX12_on (some .int) Γ (rhe0I Γ M) (f_X12_on_32 Γ M v0 v1 v2 s0 s1 s2 s3) 32 [(0, rhR v0), (1, rhI v1), (2, rhI v2)] [rhI s3, rhI s2, rhI s1, rhI s0] Γ M := by
  intro v0 v1 v2 s0 s1 s2 s3
  rw [f_X12_on_32]
  refine rhF.isub (pc := 32) dX12_on_32 ?_
  refine rhF.iconst (pc := 33) (v := 1) dX12_on_33 (by decide) ?_
  refine rhF.isub (pc := 34) dX12_on_34 ?_
  refine rhF.callS (pc := 35) (embc := rhe0I _ _) [rhI _, rhI _, rhI _] dX12_on_35 ml_X12_415 ms_X12_isIn (c_X12_isIn _ _ _ _ _ _) (by decide) (by decide) rfl (Nat.le_of_ble_eq_true rfl) (fun r7 _ => ?_)
  refine rhF.if_eq (pc := 38) 67 dX12_on_38 (by decide) (fun h8 => ?_) (fun h8 => ?_)
  · refine rhF.iconst (pc := 67) (v := (-1)) dX12_on_67 (by decide) ?_
    exact rhF.zret (pc := 68) dX12_on_68 rfl rfl rfl
  · refine rhF.aload_n (pc := 41) dX12_on_41 0 rfl ?_
    refine rhF.ck (fun h9 => ?_)
    refine rhF.get (pc := 42) (rhR _) dX12_on_42 fl_X12_101 h9 rfl ?_
    refine rhF.iload_n (pc := 45) dX12_on_45 1 rfl ?_
    refine rhF.if_ne (pc := 46) 53 dX12_on_46 (by decide) (fun h10 => ?_) (fun h10 => ?_)
    · refine rhF.iconst (pc := 49) (v := 0) dX12_on_49 (by decide) ?_
      refine rhF.goto (pc := 50) 61 dX12_on_50 (by decide) ?_
      refine rhF.iload_n (pc := 61) dX12_on_61 2 rfl ?_
      refine rhF.iadd (pc := 62) dX12_on_62 ?_
      refine rhF.ck (fun h11 => ?_)
      refine rhF.ck (fun h12 => ?_)
      refine rhF.iald (pc := 63) dX12_on_63 h11 h12 ?_
      refine rhF.goto (pc := 64) 68 dX12_on_64 (by decide) ?_
      exact rhF.zret (pc := 68) dX12_on_68 rfl rfl rfl
    · refine rhF.aload_n (pc := 53) dX12_on_53 0 rfl ?_
      refine rhF.get (pc := 54) (rhR _) dX12_on_54 fl_X12_104 h9 rfl ?_
      refine rhF.iload_n (pc := 57) dX12_on_57 1 rfl ?_
      refine rhF.iconst (pc := 58) (v := 1) dX12_on_58 (by decide) ?_
      refine rhF.isub (pc := 59) dX12_on_59 ?_
      refine rhF.ck (fun h13 => ?_)
      refine rhF.ck (fun h14 => ?_)
      refine rhF.iald (pc := 60) dX12_on_60 h13 h14 ?_
      refine rhF.iload_n (pc := 61) dX12_on_61 2 rfl ?_
      refine rhF.iadd (pc := 62) dX12_on_62 ?_
      refine rhF.ck (fun h15 => ?_)
      refine rhF.ck (fun h16 => ?_)
      refine rhF.iald (pc := 63) dX12_on_63 h15 h16 ?_
      refine rhF.goto (pc := 64) 68 dX12_on_64 (by decide) ?_
      exact rhF.zret (pc := 68) dX12_on_68 rfl rfl rfl
set_option maxHeartbeats 4000000 in
set_option maxRecDepth 100000 in
theorem b_X12_on {E : rhE} {Γ : rhG} {M : rhM} : ∀ (v0 : Nat) (v1 : Int32) (v2 : Int32), rhF E 6 3 yX12_on cX12_on (some .int) Γ (rhe0I Γ M) (f_X12_on Γ M v0 v1 v2) 0 [(0, rhR v0), (1, rhI v1), (2, rhI v2)] [] Γ M := by
  intro v0 v1 v2
  rw [f_X12_on]
  refine rhF.aload_n (pc := 0) dX12_on_0 0 rfl ?_
  refine rhF.iload_n (pc := 1) dX12_on_1 1 rfl ?_
  refine rhF.ck (fun h1 => ?_)
  refine rhF.callV (pc := 2) (ci := 12) (embc := rhe0I _ _) [rhI _] dX12_on_2 ml_X12_428 mv_X12_isRail ⟨_, rfl, rfl⟩ h1 (c_X12_isRail _ _ _ _ _) (by decide) (by decide) rfl (Nat.le_of_ble_eq_true rfl) (fun r2 _ => ?_)
  refine rhF.if_eq (pc := 5) 67 dX12_on_5 (by decide) (fun h3 => ?_) (fun h3 => ?_)
  · refine rhF.iconst (pc := 67) (v := (-1)) dX12_on_67 (by decide) ?_
    exact rhF.zret (pc := 68) dX12_on_68 rfl rfl rfl
  · refine rhF.iload_n (pc := 8) dX12_on_8 2 rfl ?_
    refine rhF.iconst (pc := 9) (v := 0) dX12_on_9 (by decide) ?_
    refine rhF.aload_n (pc := 10) dX12_on_10 0 rfl ?_
    refine rhF.get (pc := 11) (rhR _) dX12_on_11 fl_X12_104 h1 rfl ?_
    refine rhF.iload_n (pc := 14) dX12_on_14 1 rfl ?_
    refine rhF.ck (fun h4 => ?_)
    refine rhF.ck (fun h5 => ?_)
    refine rhF.iald (pc := 15) dX12_on_15 h4 h5 ?_
    refine rhF.iload_n (pc := 16) dX12_on_16 1 rfl ?_
    refine rhF.if_ne (pc := 17) 24 dX12_on_17 (by decide) (fun h6 => ?_) (fun h6 => ?_)
    · refine rhF.iconst (pc := 20) (v := 0) dX12_on_20 (by decide) ?_
      refine rhF.goto (pc := 21) 32 dX12_on_21 (by decide) ?_
      exact (b_X12_on_32) _ _ _ _ _ _ _
    · refine rhF.aload_n (pc := 24) dX12_on_24 0 rfl ?_
      refine rhF.get (pc := 25) (rhR _) dX12_on_25 fl_X12_104 h1 rfl ?_
      refine rhF.iload_n (pc := 28) dX12_on_28 1 rfl ?_
      refine rhF.iconst (pc := 29) (v := 1) dX12_on_29 (by decide) ?_
      refine rhF.isub (pc := 30) dX12_on_30 ?_
      refine rhF.ck (fun h17 => ?_)
      refine rhF.iald (pc := 31) dX12_on_31 h4 h17 ?_
      exact (b_X12_on_32) _ _ _ _ _ _ _
theorem c_X12_on (E : rhE) (Γ : rhG) (M : rhM) (v0 : Nat) (v1 : Int32) (v2 : Int32) : ∀ a, f_X12_on Γ M v0 v1 v2 = some a → rhC E 6 yX12_on cX12_on 3 (some .int) [rhR v0, rhI v1, rhI v2] Γ M ((rhe0I Γ M) a) := rhF.met (by decide +kernel) (Nat.le_of_ble_eq_true rfl) (b_X12_on v0 v1 v2)
def f_X12_sight (Γ : rhG) (M : rhM) (v0 : Nat) (v1 : Int32) (v2 : Int32) (v3 : Int32) (v4 : Int32) : Option (Int32 × rhM) :=
  (f_X12_isIn Γ M v1 (0 : Int32) (3 : Int32)).bind fun r1 =>
  if r1 = 0 then
    (some (((-1), M)))
  else
    rhck (Γ.2.2.1 v0 = 13) <|
    (f_X12_isHouse Γ M v0 v2).bind fun r4 =>
    if r4 = 0 then
      (some (((-1), M)))
    else
      (f_X12_isRail Γ M v0 v3).bind fun r6 =>
      if r6 = 0 then
        (some (((-1), M)))
      else
        if (M.1 v0 82) = 20 then
          (some (((-1), M)))
        else
          rhck (Γ.2.2.1 (M.2.2 v0 72) = 15) <|
          rhck (0 ≤ (M.1 v0 82).toInt ∧ (M.1 v0 82).toInt < (Γ.2.2.2 (M.2.2 v0 72) : Nat)) <|
          let M11 := rhsi M (M.2.2 v0 72) (M.1 v0 82 : Int32).toNatClampNeg v1
          rhck (Γ.2.2.1 (M.2.2 v0 73) = 15) <|
          rhck (0 ≤ (M11.1 v0 82).toInt ∧ (M11.1 v0 82).toInt < (Γ.2.2.2 (M.2.2 v0 73) : Nat)) <|
          let M14 := rhsi M11 (M.2.2 v0 73) (M11.1 v0 82 : Int32).toNatClampNeg v2
          rhck (Γ.2.2.1 (M.2.2 v0 74) = 15) <|
          rhck (0 ≤ (M14.1 v0 82).toInt ∧ (M14.1 v0 82).toInt < (Γ.2.2.2 (M.2.2 v0 74) : Nat)) <|
          let M17 := rhsi M14 (M.2.2 v0 74) (M14.1 v0 82 : Int32).toNatClampNeg v3
          rhck (Γ.2.2.1 (M.2.2 v0 81) = 17) <|
          rhck (0 ≤ (M17.1 v0 82).toInt ∧ (M17.1 v0 82).toInt < (Γ.2.2.2 (M.2.2 v0 81) : Nat)) <|
          let M20 := rhsi M17 (M.2.2 v0 81) (M17.1 v0 82 : Int32).toNatClampNeg (vp_nar .boolean v4)
          rhck (Γ.2.2.1 (M.2.2 v0 75) = 15) <|
          rhck (0 ≤ (M20.1 v0 82).toInt ∧ (M20.1 v0 82).toInt < (Γ.2.2.2 (M.2.2 v0 75) : Nat)) <|
          let M23 := rhsi M20 (M.2.2 v0 75) (M20.1 v0 82 : Int32).toNatClampNeg (M20.1 v0 83)
          rhck (Γ.2.2.1 (M.2.2 v0 76) = 15) <|
          rhck (0 ≤ (M23.1 v0 82).toInt ∧ (M23.1 v0 82).toInt < (Γ.2.2.2 (M.2.2 v0 76) : Nat)) <|
          let M26 := rhsi M23 (M.2.2 v0 76) (M23.1 v0 82 : Int32).toNatClampNeg ((-1))
          let M27 := rhsi M26 v0 82 ((M26.1 v0 82) + 1)
          some (((M27.1 v0 82) - 1, M27))
set_option maxHeartbeats 4000000 in
set_option maxRecDepth 100000 in
theorem b_X12_sight {E : rhE} {Γ : rhG} : ∀ (M : rhM) (v0 : Nat) (v1 : Int32) (v2 : Int32) (v3 : Int32) (v4 : Int32), rhF E 6 5 yX12_sight cX12_sight (some .int) Γ (rhe1I Γ) (f_X12_sight Γ M v0 v1 v2 v3 v4) 0 [(0, rhR v0), (1, rhI v1), (2, rhI v2), (3, rhI v3), (4, rhI v4)] [] Γ M := by
  intro M v0 v1 v2 v3 v4
  rw [f_X12_sight]
  refine rhF.iload_n (pc := 0) dX12_sight_0 1 rfl ?_
  refine rhF.iconst (pc := 1) (v := 0) dX12_sight_1 (by decide) ?_
  refine rhF.iconst (pc := 2) (v := 3) dX12_sight_2 (by decide) ?_
  refine rhF.callS (pc := 3) (embc := rhe0I _ _) [rhI _, rhI _, rhI _] dX12_sight_3 ml_X12_415 ms_X12_isIn (c_X12_isIn _ _ _ _ _ _) (by decide) (by decide) rfl (Nat.le_of_ble_eq_true rfl) (fun r1 _ => ?_)
  refine rhF.if_eq (pc := 6) 34 dX12_sight_6 (by decide) (fun h2 => ?_) (fun h2 => ?_)
  · refine rhF.iconst (pc := 34) (v := (-1)) dX12_sight_34 (by decide) ?_
    exact rhF.zret (pc := 35) dX12_sight_35 rfl rfl rfl
  · refine rhF.aload_n (pc := 9) dX12_sight_9 0 rfl ?_
    refine rhF.iload_n (pc := 10) dX12_sight_10 2 rfl ?_
    refine rhF.ck (fun h3 => ?_)
    refine rhF.callV (pc := 11) (ci := 12) (embc := rhe0I _ _) [rhI _] dX12_sight_11 ml_X12_464 mv_X12_isHouse ⟨_, rfl, rfl⟩ h3 (c_X12_isHouse _ _ _ _ _) (by decide) (by decide) rfl (Nat.le_of_ble_eq_true rfl) (fun r4 _ => ?_)
    refine rhF.if_eq (pc := 14) 34 dX12_sight_14 (by decide) (fun h5 => ?_) (fun h5 => ?_)
    · refine rhF.iconst (pc := 34) (v := (-1)) dX12_sight_34 (by decide) ?_
      exact rhF.zret (pc := 35) dX12_sight_35 rfl rfl rfl
    · refine rhF.aload_n (pc := 17) dX12_sight_17 0 rfl ?_
      refine rhF.iload_n (pc := 18) dX12_sight_18 3 rfl ?_
      refine rhF.callV (pc := 19) (ci := 12) (embc := rhe0I _ _) [rhI _] dX12_sight_19 ml_X12_428 mv_X12_isRail ⟨_, rfl, rfl⟩ h3 (c_X12_isRail _ _ _ _ _) (by decide) (by decide) rfl (Nat.le_of_ble_eq_true rfl) (fun r6 _ => ?_)
      refine rhF.if_eq (pc := 22) 34 dX12_sight_22 (by decide) (fun h7 => ?_) (fun h7 => ?_)
      · refine rhF.iconst (pc := 34) (v := (-1)) dX12_sight_34 (by decide) ?_
        exact rhF.zret (pc := 35) dX12_sight_35 rfl rfl rfl
      · refine rhF.aload_n (pc := 25) dX12_sight_25 0 rfl ?_
        refine rhF.get (pc := 26) (rhI _) dX12_sight_26 fl_X12_333 h3 rfl ?_
        refine rhF.bipush (pc := 29) (v := 20) dX12_sight_29 (by decide) ?_
        refine rhF.icmp_ne (pc := 31) 36 dX12_sight_31 (by decide) (fun h8 => ?_) (fun h8 => ?_)
        · refine rhF.iconst (pc := 34) (v := (-1)) dX12_sight_34 (by decide) ?_
          exact rhF.zret (pc := 35) dX12_sight_35 rfl rfl rfl
        · refine rhF.aload_n (pc := 36) dX12_sight_36 0 rfl ?_
          refine rhF.get (pc := 37) (rhR _) dX12_sight_37 fl_X12_160 h3 rfl ?_
          refine rhF.aload_n (pc := 40) dX12_sight_40 0 rfl ?_
          refine rhF.get (pc := 41) (rhI _) dX12_sight_41 fl_X12_333 h3 rfl ?_
          refine rhF.iload_n (pc := 44) dX12_sight_44 1 rfl ?_
          refine rhF.ck (fun h9 => ?_)
          refine rhF.ck (fun h10 => ?_)
          refine rhF.iast (pc := 45) dX12_sight_45 h9 h10 ?_
          refine rhF.aload_n (pc := 46) dX12_sight_46 0 rfl ?_
          refine rhF.get (pc := 47) (rhR _) dX12_sight_47 fl_X12_163 h3 rfl ?_
          refine rhF.aload_n (pc := 50) dX12_sight_50 0 rfl ?_
          refine rhF.get (pc := 51) (rhI _) dX12_sight_51 fl_X12_333 h3 rfl ?_
          refine rhF.iload_n (pc := 54) dX12_sight_54 2 rfl ?_
          refine rhF.ck (fun h12 => ?_)
          refine rhF.ck (fun h13 => ?_)
          refine rhF.iast (pc := 55) dX12_sight_55 h12 h13 ?_
          refine rhF.aload_n (pc := 56) dX12_sight_56 0 rfl ?_
          refine rhF.get (pc := 57) (rhR _) dX12_sight_57 fl_X12_166 h3 rfl ?_
          refine rhF.aload_n (pc := 60) dX12_sight_60 0 rfl ?_
          refine rhF.get (pc := 61) (rhI _) dX12_sight_61 fl_X12_333 h3 rfl ?_
          refine rhF.iload_n (pc := 64) dX12_sight_64 3 rfl ?_
          refine rhF.ck (fun h15 => ?_)
          refine rhF.ck (fun h16 => ?_)
          refine rhF.iast (pc := 65) dX12_sight_65 h15 h16 ?_
          refine rhF.aload_n (pc := 66) dX12_sight_66 0 rfl ?_
          refine rhF.get (pc := 67) (rhR _) dX12_sight_67 fl_X12_187 h3 rfl ?_
          refine rhF.aload_n (pc := 70) dX12_sight_70 0 rfl ?_
          refine rhF.get (pc := 71) (rhI _) dX12_sight_71 fl_X12_333 h3 rfl ?_
          refine rhF.iload (pc := 74) dX12_sight_74 4 rfl ?_
          refine rhF.ck (fun h18 => ?_)
          refine rhF.ck (fun h19 => ?_)
          refine rhF.zast (pc := 76) dX12_sight_76 h18 h19 ?_
          refine rhF.aload_n (pc := 77) dX12_sight_77 0 rfl ?_
          refine rhF.get (pc := 78) (rhR _) dX12_sight_78 fl_X12_169 h3 rfl ?_
          refine rhF.aload_n (pc := 81) dX12_sight_81 0 rfl ?_
          refine rhF.get (pc := 82) (rhI _) dX12_sight_82 fl_X12_333 h3 rfl ?_
          refine rhF.aload_n (pc := 85) dX12_sight_85 0 rfl ?_
          refine rhF.get (pc := 86) (rhI _) dX12_sight_86 fl_X12_555 h3 rfl ?_
          refine rhF.ck (fun h21 => ?_)
          refine rhF.ck (fun h22 => ?_)
          refine rhF.iast (pc := 89) dX12_sight_89 h21 h22 ?_
          refine rhF.aload_n (pc := 90) dX12_sight_90 0 rfl ?_
          refine rhF.get (pc := 91) (rhR _) dX12_sight_91 fl_X12_172 h3 rfl ?_
          refine rhF.aload_n (pc := 94) dX12_sight_94 0 rfl ?_
          refine rhF.get (pc := 95) (rhI _) dX12_sight_95 fl_X12_333 h3 rfl ?_
          refine rhF.iconst (pc := 98) (v := (-1)) dX12_sight_98 (by decide) ?_
          refine rhF.ck (fun h24 => ?_)
          refine rhF.ck (fun h25 => ?_)
          refine rhF.iast (pc := 99) dX12_sight_99 h24 h25 ?_
          refine rhF.aload_n (pc := 100) dX12_sight_100 0 rfl ?_
          refine rhF.dupr (pc := 101) dX12_sight_101 ?_
          refine rhF.get (pc := 102) (rhI _) dX12_sight_102 fl_X12_333 h3 rfl ?_
          refine rhF.iconst (pc := 105) (v := 1) dX12_sight_105 (by decide) ?_
          refine rhF.iadd (pc := 106) dX12_sight_106 ?_
          refine rhF.puti (pc := 107) dX12_sight_107 fl_X12_333 h3 (fun q hq => by cases hq; exact Or.inl rfl) ⟨rfl, rfl⟩ (fun _ => rfl) ?_
          refine rhF.aload_n (pc := 110) dX12_sight_110 0 rfl ?_
          refine rhF.get (pc := 111) (rhI _) dX12_sight_111 fl_X12_333 h3 rfl ?_
          refine rhF.iconst (pc := 114) (v := 1) dX12_sight_114 (by decide) ?_
          refine rhF.isub (pc := 115) dX12_sight_115 ?_
          exact rhF.zret (pc := 116) dX12_sight_116 rfl rfl rfl
theorem c_X12_sight (E : rhE) (Γ : rhG) (M : rhM) (v0 : Nat) (v1 : Int32) (v2 : Int32) (v3 : Int32) (v4 : Int32) : ∀ a, f_X12_sight Γ M v0 v1 v2 v3 v4 = some a → rhC E 6 yX12_sight cX12_sight 5 (some .int) [rhR v0, rhI v1, rhI v2, rhI v3, rhI v4] Γ M ((rhe1I Γ) a) := rhF.met (by decide +kernel) (Nat.le_of_ble_eq_true rfl) (b_X12_sight M v0 v1 v2 v3 v4)
def f_X12_image_33 (k62 : rhM → Nat → Int32 → Option (Int32 × rhM)) (Γ : rhG) : Nat → rhM → Nat → Int32 → Int32 → Option (Int32 × rhM)
  | 0, _, _, _, _ => none
  | n + 1, M, v0, v1, v2 =>
    if v2 < 8 then
      (rhck (Γ.2.2.1 v0 = 13) <|
      rhck (Γ.2.2.1 (M.2.2 v0 42) = 15) <|
      rhck (0 ≤ (v2).toInt ∧ (v2).toInt < (Γ.2.2.2 (M.2.2 v0 42) : Nat)) <|
      rhck (Γ.2.2.1 (M.2.2 v0 86) = 15) <|
      rhck (0 ≤ ((8 * v1) + v2).toInt ∧ ((8 * v1) + v2).toInt < (Γ.2.2.2 (M.2.2 v0 86) : Nat)) <|
      let M16 := rhsi M (M.2.2 v0 86) ((8 * v1) + v2 : Int32).toNatClampNeg (M.1 (M.2.2 v0 42) v2.toNatClampNeg)
      let x17 : Int32 := v2 + 1
      f_X12_image_33 k62 Γ n M16 v0 v1 x17)
    else
      k62 M v0 v1
def f_X12_image_64 (k92 : rhM → Nat → Int32 → Option (Int32 × rhM)) (Γ : rhG) : Nat → rhM → Nat → Int32 → Int32 → Option (Int32 × rhM)
  | 0, _, _, _, _ => none
  | n + 1, M, v0, v1, v2 =>
    if v2 < 5 then
      (rhck (Γ.2.2.1 v0 = 13) <|
      rhck (Γ.2.2.1 (M.2.2 v0 43) = 15) <|
      rhck (0 ≤ (v2).toInt ∧ (v2).toInt < (Γ.2.2.2 (M.2.2 v0 43) : Nat)) <|
      rhck (Γ.2.2.1 (M.2.2 v0 87) = 15) <|
      rhck (0 ≤ ((6 * v1) + v2).toInt ∧ ((6 * v1) + v2).toInt < (Γ.2.2.2 (M.2.2 v0 87) : Nat)) <|
      let M24 := rhsi M (M.2.2 v0 87) ((6 * v1) + v2 : Int32).toNatClampNeg (M.1 (M.2.2 v0 43) v2.toNatClampNeg)
      let x25 : Int32 := v2 + 1
      f_X12_image_64 k92 Γ n M24 v0 v1 x25)
    else
      k92 M v0 v1
def f_X12_image_94 (Γ : rhG) : Nat → rhM → Nat → Int32 → Int32 → Option (Int32 × rhM)
  | 0, _, _, _, _ => none
  | n + 1, M, v0, v1, v2 =>
    rhck (Γ.2.2.1 v0 = 13) <|
    if v2 < (M.1 v0 48) then
      (rhck (Γ.2.2.1 (M.2.2 v0 46) = 15) <|
      rhck (0 ≤ (v2).toInt ∧ (v2).toInt < (Γ.2.2.2 (M.2.2 v0 46) : Nat)) <|
      rhck (Γ.2.2.1 (M.2.2 v0 88) = 15) <|
      rhck (0 ≤ ((300 * v1) + v2).toInt ∧ ((300 * v1) + v2).toInt < (Γ.2.2.2 (M.2.2 v0 88) : Nat)) <|
      let M32 := rhsi M (M.2.2 v0 88) ((300 * v1) + v2 : Int32).toNatClampNeg (M.1 (M.2.2 v0 46) v2.toNatClampNeg)
      rhck (Γ.2.2.1 (M.2.2 v0 47) = 15) <|
      rhck (0 ≤ (v2).toInt ∧ (v2).toInt < (Γ.2.2.2 (M.2.2 v0 47) : Nat)) <|
      rhck (Γ.2.2.1 (M.2.2 v0 89) = 15) <|
      rhck (0 ≤ ((300 * v1) + v2).toInt ∧ ((300 * v1) + v2).toInt < (Γ.2.2.2 (M.2.2 v0 89) : Nat)) <|
      let M37 := rhsi M32 (M.2.2 v0 89) ((300 * v1) + v2 : Int32).toNatClampNeg (M32.1 (M.2.2 v0 47) v2.toNatClampNeg)
      let x38 : Int32 := v2 + 1
      f_X12_image_94 Γ n M37 v0 v1 x38)
    else
      some ((M.1 v0 48, M))
def f_X12_image_92 (Γ : rhG) (M : rhM) (v0 : Nat) (v1 : Int32) : Option (Int32 × rhM) :=
  f_X12_image_94 Γ rhFU M v0 v1 0
def f_X12_image_62 (Γ : rhG) (M : rhM) (v0 : Nat) (v1 : Int32) : Option (Int32 × rhM) :=
  f_X12_image_64 (f_X12_image_92 Γ) Γ rhFU M v0 v1 0
def f_X12_image (Γ : rhG) (M : rhM) (v0 : Nat) (v1 : Int32) : Option (Int32 × rhM) :=
  (f_X12_isIn Γ M v1 (0 : Int32) (2 : Int32)).bind fun r1 =>
  if r1 = 0 then
    (some (((-1), M)))
  else
    rhck (Γ.2.2.1 v0 = 13) <|
    rhck (Γ.2.2.1 (M.2.2 v0 84) = 15) <|
    rhck (0 ≤ (v1).toInt ∧ (v1).toInt < (Γ.2.2.2 (M.2.2 v0 84) : Nat)) <|
    let M6 := rhsi M (M.2.2 v0 84) (v1 : Int32).toNatClampNeg (M.1 v0 48)
    rhck (Γ.2.2.1 (M.2.2 v0 85) = 15) <|
    rhck (0 ≤ (v1).toInt ∧ (v1).toInt < (Γ.2.2.2 (M.2.2 v0 85) : Nat)) <|
    let M9 := rhsi M6 (M.2.2 v0 85) (v1 : Int32).toNatClampNeg (M6.1 v0 49)
    f_X12_image_33 (f_X12_image_62 Γ) Γ rhFU M9 v0 v1 0
set_option maxHeartbeats 4000000 in
set_option maxRecDepth 100000 in
theorem b_X12_image_33 {E : rhE} {Γ : rhG} {k62 : rhM → Nat → Int32 → Option (Int32 × rhM)} (hk62 : ∀ (M : rhM) (v0 : Nat) (v1 : Int32), rhF E 5 3 yX12_image cX12_image (some .int) Γ (rhe1I Γ) (k62 M v0 v1) 62 [(0, rhR v0), (1, rhI v1)] [] Γ M) : ∀ (n : Nat) (M : rhM) (v0 : Nat) (v1 : Int32) (v2 : Int32), rhF E 5 3 yX12_image cX12_image (some .int) Γ (rhe1I Γ) (f_X12_image_33 k62 Γ n M v0 v1 v2) 33 [(0, rhR v0), (1, rhI v1), (2, rhI v2)] [] Γ M := by
  intro n
  induction n with
  | zero => intro M v0 v1 v2; rw [f_X12_image_33]; exact rhF.nope
  | succ n ih =>
    intro M v0 v1 v2
    rw [f_X12_image_33]
    refine rhF.iload_n (pc := 33) dX12_image_33 2 rfl ?_
    refine rhF.bipush (pc := 34) (v := 8) dX12_image_34 (by decide) ?_
    refine rhF.icmp_ge (pc := 36) 62 dX12_image_36 (by decide) (fun h10 => ?_) (fun h10 => ?_)
    · refine rhF.aload_n (pc := 39) dX12_image_39 0 rfl ?_
      refine rhF.ck (fun h11 => ?_)
      refine rhF.get (pc := 40) (rhR _) dX12_image_40 fl_X12_196 h11 rfl ?_
      refine rhF.bipush (pc := 43) (v := 8) dX12_image_43 (by decide) ?_
      refine rhF.iload_n (pc := 45) dX12_image_45 1 rfl ?_
      refine rhF.imul (pc := 46) dX12_image_46 ?_
      refine rhF.iload_n (pc := 47) dX12_image_47 2 rfl ?_
      refine rhF.iadd (pc := 48) dX12_image_48 ?_
      refine rhF.aload_n (pc := 49) dX12_image_49 0 rfl ?_
      refine rhF.get (pc := 50) (rhR _) dX12_image_50 fl_X12_101 h11 rfl ?_
      refine rhF.iload_n (pc := 53) dX12_image_53 2 rfl ?_
      refine rhF.ck (fun h12 => ?_)
      refine rhF.ck (fun h13 => ?_)
      refine rhF.iald (pc := 54) dX12_image_54 h12 h13 ?_
      refine rhF.ck (fun h14 => ?_)
      refine rhF.ck (fun h15 => ?_)
      refine rhF.iast (pc := 55) dX12_image_55 h14 h15 ?_
      refine rhF.iinc (pc := 56) (L' := [(2, rhI _), (0, rhR _), (1, rhI _)]) dX12_image_56 2 rfl rfl (by decide) rfl ?_
      refine rhF.goto (pc := 59) 33 dX12_image_59 (by decide) ?_
      refine rhF.sub [1, 2, 0] rfl ?_
      exact ih _ _ _ _
    · refine rhF.sub [0, 1] rfl ?_
      exact hk62 _ _ _
set_option maxHeartbeats 4000000 in
set_option maxRecDepth 100000 in
theorem b_X12_image_64 {E : rhE} {Γ : rhG} {k92 : rhM → Nat → Int32 → Option (Int32 × rhM)} (hk92 : ∀ (M : rhM) (v0 : Nat) (v1 : Int32), rhF E 5 3 yX12_image cX12_image (some .int) Γ (rhe1I Γ) (k92 M v0 v1) 92 [(0, rhR v0), (1, rhI v1)] [] Γ M) : ∀ (n : Nat) (M : rhM) (v0 : Nat) (v1 : Int32) (v2 : Int32), rhF E 5 3 yX12_image cX12_image (some .int) Γ (rhe1I Γ) (f_X12_image_64 k92 Γ n M v0 v1 v2) 64 [(0, rhR v0), (1, rhI v1), (2, rhI v2)] [] Γ M := by
  intro n
  induction n with
  | zero => intro M v0 v1 v2; rw [f_X12_image_64]; exact rhF.nope
  | succ n ih =>
    intro M v0 v1 v2
    rw [f_X12_image_64]
    refine rhF.iload_n (pc := 64) dX12_image_64 2 rfl ?_
    refine rhF.iconst (pc := 65) (v := 5) dX12_image_65 (by decide) ?_
    refine rhF.icmp_ge (pc := 66) 92 dX12_image_66 (by decide) (fun h18 => ?_) (fun h18 => ?_)
    · refine rhF.aload_n (pc := 69) dX12_image_69 0 rfl ?_
      refine rhF.ck (fun h19 => ?_)
      refine rhF.get (pc := 70) (rhR _) dX12_image_70 fl_X12_199 h19 rfl ?_
      refine rhF.bipush (pc := 73) (v := 6) dX12_image_73 (by decide) ?_
      refine rhF.iload_n (pc := 75) dX12_image_75 1 rfl ?_
      refine rhF.imul (pc := 76) dX12_image_76 ?_
      refine rhF.iload_n (pc := 77) dX12_image_77 2 rfl ?_
      refine rhF.iadd (pc := 78) dX12_image_78 ?_
      refine rhF.aload_n (pc := 79) dX12_image_79 0 rfl ?_
      refine rhF.get (pc := 80) (rhR _) dX12_image_80 fl_X12_104 h19 rfl ?_
      refine rhF.iload_n (pc := 83) dX12_image_83 2 rfl ?_
      refine rhF.ck (fun h20 => ?_)
      refine rhF.ck (fun h21 => ?_)
      refine rhF.iald (pc := 84) dX12_image_84 h20 h21 ?_
      refine rhF.ck (fun h22 => ?_)
      refine rhF.ck (fun h23 => ?_)
      refine rhF.iast (pc := 85) dX12_image_85 h22 h23 ?_
      refine rhF.iinc (pc := 86) (L' := [(2, rhI _), (0, rhR _), (1, rhI _)]) dX12_image_86 2 rfl rfl (by decide) rfl ?_
      refine rhF.goto (pc := 89) 64 dX12_image_89 (by decide) ?_
      refine rhF.sub [1, 2, 0] rfl ?_
      exact ih _ _ _ _
    · refine rhF.sub [0, 1] rfl ?_
      exact hk92 _ _ _
set_option maxHeartbeats 4000000 in
set_option maxRecDepth 100000 in
theorem b_X12_image_94 {E : rhE} {Γ : rhG} : ∀ (n : Nat) (M : rhM) (v0 : Nat) (v1 : Int32) (v2 : Int32), rhF E 5 3 yX12_image cX12_image (some .int) Γ (rhe1I Γ) (f_X12_image_94 Γ n M v0 v1 v2) 94 [(0, rhR v0), (1, rhI v1), (2, rhI v2)] [] Γ M := by
  intro n
  induction n with
  | zero => intro M v0 v1 v2; rw [f_X12_image_94]; exact rhF.nope
  | succ n ih =>
    intro M v0 v1 v2
    rw [f_X12_image_94]
    refine rhF.iload_n (pc := 94) dX12_image_94 2 rfl ?_
    refine rhF.aload_n (pc := 95) dX12_image_95 0 rfl ?_
    refine rhF.ck (fun h26 => ?_)
    refine rhF.get (pc := 96) (rhI _) dX12_image_96 fl_X12_458 h26 rfl ?_
    refine rhF.icmp_ge (pc := 99) 144 dX12_image_99 (by decide) (fun h27 => ?_) (fun h27 => ?_)
    · refine rhF.aload_n (pc := 102) dX12_image_102 0 rfl ?_
      refine rhF.get (pc := 103) (rhR _) dX12_image_103 fl_X12_202 h26 rfl ?_
      refine rhF.sipush (pc := 106) (v := 300) dX12_image_106 (by decide) ?_
      refine rhF.iload_n (pc := 109) dX12_image_109 1 rfl ?_
      refine rhF.imul (pc := 110) dX12_image_110 ?_
      refine rhF.iload_n (pc := 111) dX12_image_111 2 rfl ?_
      refine rhF.iadd (pc := 112) dX12_image_112 ?_
      refine rhF.aload_n (pc := 113) dX12_image_113 0 rfl ?_
      refine rhF.get (pc := 114) (rhR _) dX12_image_114 fl_X12_110 h26 rfl ?_
      refine rhF.iload_n (pc := 117) dX12_image_117 2 rfl ?_
      refine rhF.ck (fun h28 => ?_)
      refine rhF.ck (fun h29 => ?_)
      refine rhF.iald (pc := 118) dX12_image_118 h28 h29 ?_
      refine rhF.ck (fun h30 => ?_)
      refine rhF.ck (fun h31 => ?_)
      refine rhF.iast (pc := 119) dX12_image_119 h30 h31 ?_
      refine rhF.aload_n (pc := 120) dX12_image_120 0 rfl ?_
      refine rhF.get (pc := 121) (rhR _) dX12_image_121 fl_X12_205 h26 rfl ?_
      refine rhF.sipush (pc := 124) (v := 300) dX12_image_124 (by decide) ?_
      refine rhF.iload_n (pc := 127) dX12_image_127 1 rfl ?_
      refine rhF.imul (pc := 128) dX12_image_128 ?_
      refine rhF.iload_n (pc := 129) dX12_image_129 2 rfl ?_
      refine rhF.iadd (pc := 130) dX12_image_130 ?_
      refine rhF.aload_n (pc := 131) dX12_image_131 0 rfl ?_
      refine rhF.get (pc := 132) (rhR _) dX12_image_132 fl_X12_113 h26 rfl ?_
      refine rhF.iload_n (pc := 135) dX12_image_135 2 rfl ?_
      refine rhF.ck (fun h33 => ?_)
      refine rhF.ck (fun h34 => ?_)
      refine rhF.iald (pc := 136) dX12_image_136 h33 h34 ?_
      refine rhF.ck (fun h35 => ?_)
      refine rhF.ck (fun h36 => ?_)
      refine rhF.iast (pc := 137) dX12_image_137 h35 h36 ?_
      refine rhF.iinc (pc := 138) (L' := [(2, rhI _), (0, rhR _), (1, rhI _)]) dX12_image_138 2 rfl rfl (by decide) rfl ?_
      refine rhF.goto (pc := 141) 94 dX12_image_141 (by decide) ?_
      refine rhF.sub [1, 2, 0] rfl ?_
      exact ih _ _ _ _
    · refine rhF.aload_n (pc := 144) dX12_image_144 0 rfl ?_
      refine rhF.get (pc := 145) (rhI _) dX12_image_145 fl_X12_458 h26 rfl ?_
      exact rhF.zret (pc := 148) dX12_image_148 rfl rfl rfl
set_option maxHeartbeats 4000000 in
set_option maxRecDepth 100000 in
theorem b_X12_image_92 {E : rhE} {Γ : rhG} : ∀ (M : rhM) (v0 : Nat) (v1 : Int32), rhF E 5 3 yX12_image cX12_image (some .int) Γ (rhe1I Γ) (f_X12_image_92 Γ M v0 v1) 92 [(0, rhR v0), (1, rhI v1)] [] Γ M := by
  intro M v0 v1
  rw [f_X12_image_92]
  refine rhF.iconst (pc := 92) (v := 0) dX12_image_92 (by decide) ?_
  refine rhF.istore_n (pc := 93) (L' := [(2, rhI _), (0, rhR _), (1, rhI _)]) dX12_image_93 (by decide) rfl ?_
  refine rhF.sub [1, 2, 0] rfl ?_
  exact (b_X12_image_94 rhFU) _ _ _ _
set_option maxHeartbeats 4000000 in
set_option maxRecDepth 100000 in
theorem b_X12_image_62 {E : rhE} {Γ : rhG} : ∀ (M : rhM) (v0 : Nat) (v1 : Int32), rhF E 5 3 yX12_image cX12_image (some .int) Γ (rhe1I Γ) (f_X12_image_62 Γ M v0 v1) 62 [(0, rhR v0), (1, rhI v1)] [] Γ M := by
  intro M v0 v1
  rw [f_X12_image_62]
  refine rhF.iconst (pc := 62) (v := 0) dX12_image_62 (by decide) ?_
  refine rhF.istore_n (pc := 63) (L' := [(2, rhI _), (0, rhR _), (1, rhI _)]) dX12_image_63 (by decide) rfl ?_
  refine rhF.sub [1, 2, 0] rfl ?_
  exact (b_X12_image_64 (b_X12_image_92) rhFU) _ _ _ _
set_option maxHeartbeats 4000000 in
set_option maxRecDepth 100000 in
theorem b_X12_image {E : rhE} {Γ : rhG} : ∀ (M : rhM) (v0 : Nat) (v1 : Int32), rhF E 5 3 yX12_image cX12_image (some .int) Γ (rhe1I Γ) (f_X12_image Γ M v0 v1) 0 [(0, rhR v0), (1, rhI v1)] [] Γ M := by
  intro M v0 v1
  rw [f_X12_image]
  refine rhF.iload_n (pc := 0) dX12_image_0 1 rfl ?_
  refine rhF.iconst (pc := 1) (v := 0) dX12_image_1 (by decide) ?_
  refine rhF.iconst (pc := 2) (v := 2) dX12_image_2 (by decide) ?_
  refine rhF.callS (pc := 3) (embc := rhe0I _ _) [rhI _, rhI _, rhI _] dX12_image_3 ml_X12_415 ms_X12_isIn (c_X12_isIn _ _ _ _ _ _) (by decide) (by decide) rfl (Nat.le_of_ble_eq_true rfl) (fun r1 _ => ?_)
  refine rhF.if_ne (pc := 6) 11 dX12_image_6 (by decide) (fun h2 => ?_) (fun h2 => ?_)
  · refine rhF.iconst (pc := 9) (v := (-1)) dX12_image_9 (by decide) ?_
    exact rhF.zret (pc := 10) dX12_image_10 rfl rfl rfl
  · refine rhF.aload_n (pc := 11) dX12_image_11 0 rfl ?_
    refine rhF.ck (fun h3 => ?_)
    refine rhF.get (pc := 12) (rhR _) dX12_image_12 fl_X12_190 h3 rfl ?_
    refine rhF.iload_n (pc := 15) dX12_image_15 1 rfl ?_
    refine rhF.aload_n (pc := 16) dX12_image_16 0 rfl ?_
    refine rhF.get (pc := 17) (rhI _) dX12_image_17 fl_X12_458 h3 rfl ?_
    refine rhF.ck (fun h4 => ?_)
    refine rhF.ck (fun h5 => ?_)
    refine rhF.iast (pc := 20) dX12_image_20 h4 h5 ?_
    refine rhF.aload_n (pc := 21) dX12_image_21 0 rfl ?_
    refine rhF.get (pc := 22) (rhR _) dX12_image_22 fl_X12_193 h3 rfl ?_
    refine rhF.iload_n (pc := 25) dX12_image_25 1 rfl ?_
    refine rhF.aload_n (pc := 26) dX12_image_26 0 rfl ?_
    refine rhF.get (pc := 27) (rhI _) dX12_image_27 fl_X12_461 h3 rfl ?_
    refine rhF.ck (fun h7 => ?_)
    refine rhF.ck (fun h8 => ?_)
    refine rhF.iast (pc := 30) dX12_image_30 h7 h8 ?_
    refine rhF.iconst (pc := 31) (v := 0) dX12_image_31 (by decide) ?_
    refine rhF.istore_n (pc := 32) (L' := [(2, rhI _), (0, rhR _), (1, rhI _)]) dX12_image_32 (by decide) rfl ?_
    refine rhF.sub [1, 2, 0] rfl ?_
    exact (b_X12_image_33 (b_X12_image_62) rhFU) _ _ _ _
theorem c_X12_image (E : rhE) (Γ : rhG) (M : rhM) (v0 : Nat) (v1 : Int32) : ∀ a, f_X12_image Γ M v0 v1 = some a → rhC E 5 yX12_image cX12_image 3 (some .int) [rhR v0, rhI v1] Γ M ((rhe1I Γ) a) := rhF.met (by decide +kernel) (Nat.le_of_ble_eq_true rfl) (b_X12_image M v0 v1)
def f_X12_spare_101 (k36 : rhM → Nat → Int32 → Int32 → Int32 → Int32 → Int32 → Option (Int32 × rhM)) (Γ : rhG) (M : rhM) (v0 : Nat) (v1 : Int32) (v2 : Int32) (v3 : Int32) (v4 : Int32) (v5 : Int32) : Option (Int32 × rhM) :=
  let x16 : Int32 := v5 + 1
  k36 M v0 v1 v2 v3 v4 x16
def f_X12_spare_89 (k101 : rhM → Nat → Int32 → Int32 → Int32 → Int32 → Int32 → Option (Int32 × rhM)) (Γ : rhG) (M : rhM) (v0 : Nat) (v1 : Int32) (v2 : Int32) (v5 : Int32) (v6 : Int32) : Option (Int32 × rhM) :=
  rhck (Γ.2.2.1 v0 = 13) <|
  rhck (Γ.2.2.1 (M.2.2 v0 56) = 15) <|
  rhck (0 ≤ (v6).toInt ∧ (v6).toInt < (Γ.2.2.2 (M.2.2 v0 56) : Nat)) <|
  let x21 := M.1 (M.2.2 v0 56) v6.toNatClampNeg
  k101 M v0 v1 v2 v5 x21 v5
def f_X12_spare_36 (k107 : rhM → Nat → Int32 → Int32 → Int32 → Option (Int32 × rhM)) (Γ : rhG) : Nat → rhM → Nat → Int32 → Int32 → Int32 → Int32 → Int32 → Option (Int32 × rhM)
  | 0, _, _, _, _, _, _, _ => none
  | n + 1, M, v0, v1, v2, v3, v4, v5 =>
    rhck (Γ.2.2.1 v0 = 13) <|
    (f_X12_railMany Γ M v0).bind fun r9 =>
    if v5 < r9 then
      (let M11 := rhsi M v0 44 v5
      let M12 := rhsi M11 v0 45 v1
      (f_X12_search Γ M12 v0 (0 : Int32) (246960 : Int32)).bind fun r13 =>
      let x14 := r13.1
      if x14 < 0 then
        (f_X12_spare_101 (f_X12_spare_36 k107 Γ n) Γ r13.2 v0 v1 v2 v3 v4 v5)
      else
        if v3 < 0 then
          (f_X12_spare_89 (f_X12_spare_101 (f_X12_spare_36 k107 Γ n) Γ) Γ r13.2 v0 v1 v2 v5 x14)
        else
          rhck (Γ.2.2.1 (r13.2.2.2 v0 56) = 15) <|
          rhck (0 ≤ (x14).toInt ∧ (x14).toInt < (Γ.2.2.2 (r13.2.2.2 v0 56) : Nat)) <|
          if (r13.2.1 (r13.2.2.2 v0 56) x14.toNatClampNeg) < v4 then
            (f_X12_spare_89 (f_X12_spare_101 (f_X12_spare_36 k107 Γ n) Γ) Γ r13.2 v0 v1 v2 v5 x14)
          else
            f_X12_spare_101 (f_X12_spare_36 k107 Γ n) Γ r13.2 v0 v1 v2 v3 v4 v5)
    else
      k107 M v0 v2 v3 v4
def f_X12_spare_107 (Γ : rhG) (M : rhM) (v0 : Nat) (v2 : Int32) (v3 : Int32) (v4 : Int32) : Option (Int32 × rhM) :=
  rhck (Γ.2.2.1 v0 = 13) <|
  let M26 := rhsi M v0 44 ((-1))
  if v3 < 0 then
    (some ((v3, M26)))
  else
    if v2 = 0 then
      (some ((v3, M26)))
    else
      some ((v4, M26))
def f_X12_spare (Γ : rhG) (M : rhM) (v0 : Nat) (v1 : Int32) (v2 : Int32) : Option (Int32 × rhM) :=
  (f_X12_isIn Γ M v1 (1 : Int32) (99 : Int32)).bind fun r1 =>
  if r1 = 0 then
    (some (((-1), M)))
  else
    (f_X12_isIn Γ M v2 (0 : Int32) (1 : Int32)).bind fun r3 =>
    if r3 = 0 then
      (some (((-1), M)))
    else
      rhck (Γ.2.2.1 v0 = 13) <|
      (f_X12_isMany Γ M v0).bind fun r6 =>
      if r6 = 0 then
        (f_X12_spare_36 (f_X12_spare_107 Γ) Γ rhFU M v0 v1 v2 ((-1)) 0 0)
      else
        some (((-1), M))
set_option maxHeartbeats 4000000 in
set_option maxRecDepth 100000 in
theorem b_X12_spare_101 {E : rhE} {Γ : rhG} {k36 : rhM → Nat → Int32 → Int32 → Int32 → Int32 → Int32 → Option (Int32 × rhM)} (hk36 : ∀ (M : rhM) (v0 : Nat) (v1 : Int32) (v2 : Int32) (v3 : Int32) (v4 : Int32) (v5 : Int32), rhF E 11 7 yX12_spare cX12_spare (some .int) Γ (rhe1I Γ) (k36 M v0 v1 v2 v3 v4 v5) 36 [(0, rhR v0), (1, rhI v1), (2, rhI v2), (3, rhI v3), (4, rhI v4), (5, rhI v5)] [] Γ M) : ∀ (M : rhM) (v0 : Nat) (v1 : Int32) (v2 : Int32) (v3 : Int32) (v4 : Int32) (v5 : Int32), rhF E 11 7 yX12_spare cX12_spare (some .int) Γ (rhe1I Γ) (f_X12_spare_101 k36 Γ M v0 v1 v2 v3 v4 v5) 101 [(0, rhR v0), (1, rhI v1), (2, rhI v2), (3, rhI v3), (4, rhI v4), (5, rhI v5)] [] Γ M := by
  intro M v0 v1 v2 v3 v4 v5
  rw [f_X12_spare_101]
  refine rhF.iinc (pc := 101) (L' := [(5, rhI _), (0, rhR _), (1, rhI _), (2, rhI _), (3, rhI _), (4, rhI _)]) dX12_spare_101 5 rfl rfl (by decide) rfl ?_
  refine rhF.goto (pc := 104) 36 dX12_spare_104 (by decide) ?_
  refine rhF.sub [1, 2, 3, 4, 5, 0] rfl ?_
  exact hk36 _ _ _ _ _ _ _
set_option maxHeartbeats 4000000 in
set_option maxRecDepth 100000 in
theorem b_X12_spare_89 {E : rhE} {Γ : rhG} {k101 : rhM → Nat → Int32 → Int32 → Int32 → Int32 → Int32 → Option (Int32 × rhM)} (hk101 : ∀ (M : rhM) (v0 : Nat) (v1 : Int32) (v2 : Int32) (v3 : Int32) (v4 : Int32) (v5 : Int32), rhF E 11 7 yX12_spare cX12_spare (some .int) Γ (rhe1I Γ) (k101 M v0 v1 v2 v3 v4 v5) 101 [(0, rhR v0), (1, rhI v1), (2, rhI v2), (3, rhI v3), (4, rhI v4), (5, rhI v5)] [] Γ M) : ∀ (M : rhM) (v0 : Nat) (v1 : Int32) (v2 : Int32) (v5 : Int32) (v6 : Int32), rhF E 11 7 yX12_spare cX12_spare (some .int) Γ (rhe1I Γ) (f_X12_spare_89 k101 Γ M v0 v1 v2 v5 v6) 89 [(0, rhR v0), (1, rhI v1), (2, rhI v2), (5, rhI v5), (6, rhI v6)] [] Γ M := by
  intro M v0 v1 v2 v5 v6
  rw [f_X12_spare_89]
  refine rhF.iload (pc := 89) dX12_spare_89 3 rfl ?_
  refine rhF.istore_n (pc := 91) (L' := [(3, rhI _), (0, rhR _), (1, rhI _), (2, rhI _), (5, rhI _), (6, rhI _)]) dX12_spare_91 (by decide) rfl ?_
  refine rhF.aload_n (pc := 92) dX12_spare_92 1 rfl ?_
  refine rhF.ck (fun h18 => ?_)
  refine rhF.get (pc := 93) (rhR _) dX12_spare_93 fl_X12_129 h18 rfl ?_
  refine rhF.iload (pc := 96) dX12_spare_96 5 rfl ?_
  refine rhF.ck (fun h19 => ?_)
  refine rhF.ck (fun h20 => ?_)
  refine rhF.iald (pc := 98) dX12_spare_98 h19 h20 ?_
  refine rhF.istore (pc := 99) (L' := [(4, rhI _), (3, rhI _), (0, rhR _), (1, rhI _), (2, rhI _), (5, rhI _), (6, rhI _)]) dX12_spare_99 (by decide) rfl ?_
  refine rhF.sub [2, 3, 4, 1, 0, 5] rfl ?_
  exact hk101 _ _ _ _ _ _ _
set_option maxHeartbeats 4000000 in
set_option maxRecDepth 100000 in
theorem b_X12_spare_36 {E : rhE} {Γ : rhG} {k107 : rhM → Nat → Int32 → Int32 → Int32 → Option (Int32 × rhM)} (hk107 : ∀ (M : rhM) (v0 : Nat) (v2 : Int32) (v3 : Int32) (v4 : Int32), rhF E 11 7 yX12_spare cX12_spare (some .int) Γ (rhe1I Γ) (k107 M v0 v2 v3 v4) 107 [(0, rhR v0), (2, rhI v2), (3, rhI v3), (4, rhI v4)] [] Γ M) : ∀ (n : Nat) (M : rhM) (v0 : Nat) (v1 : Int32) (v2 : Int32) (v3 : Int32) (v4 : Int32) (v5 : Int32), rhF E 11 7 yX12_spare cX12_spare (some .int) Γ (rhe1I Γ) (f_X12_spare_36 k107 Γ n M v0 v1 v2 v3 v4 v5) 36 [(0, rhR v0), (1, rhI v1), (2, rhI v2), (3, rhI v3), (4, rhI v4), (5, rhI v5)] [] Γ M := by
  intro n
  induction n with
  | zero => intro M v0 v1 v2 v3 v4 v5; rw [f_X12_spare_36]; exact rhF.nope
  | succ n ih =>
    intro M v0 v1 v2 v3 v4 v5
    rw [f_X12_spare_36]
    refine rhF.iload (pc := 36) dX12_spare_36 5 rfl ?_
    refine rhF.aload_n (pc := 38) dX12_spare_38 0 rfl ?_
    refine rhF.ck (fun h8 => ?_)
    refine rhF.callV (pc := 39) (ci := 12) (embc := rhe0I _ _) [] dX12_spare_39 ml_X12_412 mv_X12_railMany ⟨_, rfl, rfl⟩ h8 (c_X12_railMany _ _ _ _) (by decide) (by decide) rfl (Nat.le_of_ble_eq_true rfl) (fun r9 _ => ?_)
    refine rhF.icmp_ge (pc := 42) 107 dX12_spare_42 (by decide) (fun h10 => ?_) (fun h10 => ?_)
    · refine rhF.aload_n (pc := 45) dX12_spare_45 0 rfl ?_
      refine rhF.iload (pc := 46) dX12_spare_46 5 rfl ?_
      refine rhF.puti (pc := 48) dX12_spare_48 fl_X12_107 h8 (fun q hq => by cases hq; exact Or.inl rfl) ⟨rfl, rfl⟩ (fun _ => rfl) ?_
      refine rhF.aload_n (pc := 51) dX12_spare_51 0 rfl ?_
      refine rhF.iload_n (pc := 52) dX12_spare_52 1 rfl ?_
      refine rhF.puti (pc := 53) dX12_spare_53 fl_X12_422 h8 (fun q hq => by cases hq; exact Or.inl rfl) ⟨rfl, rfl⟩ (fun _ => rfl) ?_
      refine rhF.aload_n (pc := 56) dX12_spare_56 0 rfl ?_
      refine rhF.iconst (pc := 57) (v := 0) dX12_spare_57 (by decide) ?_
      refine rhF.ldc (pc := 58) dX12_spare_58 k_X12_122 ?_
      refine rhF.callV (pc := 60) (ci := 12) (embc := rhe1I _) [rhI _, rhI _] dX12_spare_60 ml_X12_518 mv_X12_search ⟨_, rfl, rfl⟩ h8 (c_X12_search _ _ _ _ _ _) (by decide) (by decide) rfl (Nat.le_of_ble_eq_true rfl) (fun r13 _ => ?_)
      refine rhF.istore (pc := 63) (L' := [(6, rhI _), (0, rhR _), (1, rhI _), (2, rhI _), (3, rhI _), (4, rhI _), (5, rhI _)]) dX12_spare_63 (by decide) rfl ?_
      refine rhF.iload (pc := 65) dX12_spare_65 0 rfl ?_
      refine rhF.if_lt (pc := 67) 101 dX12_spare_67 (by decide) (fun h15 => ?_) (fun h15 => ?_)
      · refine rhF.sub [1, 2, 3, 4, 5, 6] rfl ?_
        exact (b_X12_spare_101 ih) _ _ _ _ _ _ _
      · refine rhF.iload_n (pc := 70) dX12_spare_70 4 rfl ?_
        refine rhF.if_lt (pc := 71) 89 dX12_spare_71 (by decide) (fun h17 => ?_) (fun h17 => ?_)
        · refine rhF.sub [1, 2, 3, 6, 0] rfl ?_
          exact (b_X12_spare_89 (b_X12_spare_101 ih)) _ _ _ _ _ _
        · refine rhF.aload_n (pc := 74) dX12_spare_74 1 rfl ?_
          refine rhF.get (pc := 75) (rhR _) dX12_spare_75 fl_X12_129 h8 rfl ?_
          refine rhF.iload (pc := 78) dX12_spare_78 0 rfl ?_
          refine rhF.ck (fun h22 => ?_)
          refine rhF.ck (fun h23 => ?_)
          refine rhF.iald (pc := 80) dX12_spare_80 h22 h23 ?_
          refine rhF.iload (pc := 81) dX12_spare_81 5 rfl ?_
          refine rhF.icmp_lt (pc := 83) 89 dX12_spare_83 (by decide) (fun h24 => ?_) (fun h24 => ?_)
          · refine rhF.sub [1, 2, 3, 6, 0] rfl ?_
            exact (b_X12_spare_89 (b_X12_spare_101 ih)) _ _ _ _ _ _
          · refine rhF.goto (pc := 86) 101 dX12_spare_86 (by decide) ?_
            refine rhF.sub [1, 2, 3, 4, 5, 6] rfl ?_
            exact (b_X12_spare_101 ih) _ _ _ _ _ _ _
    · refine rhF.sub [0, 2, 3, 4] rfl ?_
      exact hk107 _ _ _ _ _
set_option maxHeartbeats 4000000 in
set_option maxRecDepth 100000 in
theorem b_X12_spare_107 {E : rhE} {Γ : rhG} : ∀ (M : rhM) (v0 : Nat) (v2 : Int32) (v3 : Int32) (v4 : Int32), rhF E 11 7 yX12_spare cX12_spare (some .int) Γ (rhe1I Γ) (f_X12_spare_107 Γ M v0 v2 v3 v4) 107 [(0, rhR v0), (2, rhI v2), (3, rhI v3), (4, rhI v4)] [] Γ M := by
  intro M v0 v2 v3 v4
  rw [f_X12_spare_107]
  refine rhF.aload_n (pc := 107) dX12_spare_107 0 rfl ?_
  refine rhF.iconst (pc := 108) (v := (-1)) dX12_spare_108 (by decide) ?_
  refine rhF.ck (fun h25 => ?_)
  refine rhF.puti (pc := 109) dX12_spare_109 fl_X12_107 h25 (fun q hq => by cases hq; exact Or.inl rfl) ⟨rfl, rfl⟩ (fun _ => rfl) ?_
  refine rhF.iload_n (pc := 112) dX12_spare_112 2 rfl ?_
  refine rhF.if_lt (pc := 113) 120 dX12_spare_113 (by decide) (fun h27 => ?_) (fun h27 => ?_)
  · refine rhF.iload_n (pc := 120) dX12_spare_120 2 rfl ?_
    refine rhF.goto (pc := 121) 126 dX12_spare_121 (by decide) ?_
    exact rhF.zret (pc := 126) dX12_spare_126 rfl rfl rfl
  · refine rhF.iload_n (pc := 116) dX12_spare_116 1 rfl ?_
    refine rhF.if_ne (pc := 117) 124 dX12_spare_117 (by decide) (fun h28 => ?_) (fun h28 => ?_)
    · refine rhF.iload_n (pc := 120) dX12_spare_120 2 rfl ?_
      refine rhF.goto (pc := 121) 126 dX12_spare_121 (by decide) ?_
      exact rhF.zret (pc := 126) dX12_spare_126 rfl rfl rfl
    · refine rhF.iload (pc := 124) dX12_spare_124 3 rfl ?_
      exact rhF.zret (pc := 126) dX12_spare_126 rfl rfl rfl
set_option maxHeartbeats 4000000 in
set_option maxRecDepth 100000 in
theorem b_X12_spare {E : rhE} {Γ : rhG} : ∀ (M : rhM) (v0 : Nat) (v1 : Int32) (v2 : Int32), rhF E 11 7 yX12_spare cX12_spare (some .int) Γ (rhe1I Γ) (f_X12_spare Γ M v0 v1 v2) 0 [(0, rhR v0), (1, rhI v1), (2, rhI v2)] [] Γ M := by
  intro M v0 v1 v2
  rw [f_X12_spare]
  refine rhF.iload_n (pc := 0) dX12_spare_0 1 rfl ?_
  refine rhF.iconst (pc := 1) (v := 1) dX12_spare_1 (by decide) ?_
  refine rhF.bipush (pc := 2) (v := 99) dX12_spare_2 (by decide) ?_
  refine rhF.callS (pc := 4) (embc := rhe0I _ _) [rhI _, rhI _, rhI _] dX12_spare_4 ml_X12_415 ms_X12_isIn (c_X12_isIn _ _ _ _ _ _) (by decide) (by decide) rfl (Nat.le_of_ble_eq_true rfl) (fun r1 _ => ?_)
  refine rhF.if_eq (pc := 7) 26 dX12_spare_7 (by decide) (fun h2 => ?_) (fun h2 => ?_)
  · refine rhF.iconst (pc := 26) (v := (-1)) dX12_spare_26 (by decide) ?_
    exact rhF.zret (pc := 27) dX12_spare_27 rfl rfl rfl
  · refine rhF.iload_n (pc := 10) dX12_spare_10 2 rfl ?_
    refine rhF.iconst (pc := 11) (v := 0) dX12_spare_11 (by decide) ?_
    refine rhF.iconst (pc := 12) (v := 1) dX12_spare_12 (by decide) ?_
    refine rhF.callS (pc := 13) (embc := rhe0I _ _) [rhI _, rhI _, rhI _] dX12_spare_13 ml_X12_415 ms_X12_isIn (c_X12_isIn _ _ _ _ _ _) (by decide) (by decide) rfl (Nat.le_of_ble_eq_true rfl) (fun r3 _ => ?_)
    refine rhF.if_eq (pc := 16) 26 dX12_spare_16 (by decide) (fun h4 => ?_) (fun h4 => ?_)
    · refine rhF.iconst (pc := 26) (v := (-1)) dX12_spare_26 (by decide) ?_
      exact rhF.zret (pc := 27) dX12_spare_27 rfl rfl rfl
    · refine rhF.aload_n (pc := 19) dX12_spare_19 0 rfl ?_
      refine rhF.ck (fun h5 => ?_)
      refine rhF.callV (pc := 20) (ci := 12) (embc := rhe0I _ _) [] dX12_spare_20 ml_X12_515 mv_X12_isMany ⟨_, rfl, rfl⟩ h5 (c_X12_isMany _ _ _ _) (by decide) (by decide) rfl (Nat.le_of_ble_eq_true rfl) (fun r6 _ => ?_)
      refine rhF.if_eq (pc := 23) 28 dX12_spare_23 (by decide) (fun h7 => ?_) (fun h7 => ?_)
      · refine rhF.iconst (pc := 28) (v := (-1)) dX12_spare_28 (by decide) ?_
        refine rhF.istore_n (pc := 29) (L' := [(3, rhI _), (0, rhR _), (1, rhI _), (2, rhI _)]) dX12_spare_29 (by decide) rfl ?_
        refine rhF.iconst (pc := 30) (v := 0) dX12_spare_30 (by decide) ?_
        refine rhF.istore (pc := 31) (L' := [(4, rhI _), (3, rhI _), (0, rhR _), (1, rhI _), (2, rhI _)]) dX12_spare_31 (by decide) rfl ?_
        refine rhF.iconst (pc := 33) (v := 0) dX12_spare_33 (by decide) ?_
        refine rhF.istore (pc := 34) (L' := [(5, rhI _), (4, rhI _), (3, rhI _), (0, rhR _), (1, rhI _), (2, rhI _)]) dX12_spare_34 (by decide) rfl ?_
        refine rhF.sub [3, 4, 5, 2, 1, 0] rfl ?_
        exact (b_X12_spare_36 (b_X12_spare_107) rhFU) _ _ _ _ _ _ _
      · refine rhF.iconst (pc := 26) (v := (-1)) dX12_spare_26 (by decide) ?_
        exact rhF.zret (pc := 27) dX12_spare_27 rfl rfl rfl
theorem c_X12_spare (E : rhE) (Γ : rhG) (M : rhM) (v0 : Nat) (v1 : Int32) (v2 : Int32) : ∀ a, f_X12_spare Γ M v0 v1 v2 = some a → rhC E 11 yX12_spare cX12_spare 7 (some .int) [rhR v0, rhI v1, rhI v2] Γ M ((rhe1I Γ) a) := rhF.met (by decide +kernel) (Nat.le_of_ble_eq_true rfl) (b_X12_spare M v0 v1 v2)
def f_X12_worth (Γ : rhG) (M : rhM) (v0 : Nat) : Option (Int32 × rhM) :=
  rhck (Γ.2.2.1 v0 = 13) <|
  (f_X12_layNow Γ M v0).bind fun r2 =>
  (f_X12_worthOfRow Γ r2 v0).bind fun r3 =>
  some ((r3, r2))
set_option maxHeartbeats 4000000 in
set_option maxRecDepth 100000 in
theorem b_X12_worth {E : rhE} {Γ : rhG} : ∀ (M : rhM) (v0 : Nat), rhF E 6 1 yX12_worth cX12_worth (some .int) Γ (rhe1I Γ) (f_X12_worth Γ M v0) 0 [(0, rhR v0)] [] Γ M := by
  intro M v0
  rw [f_X12_worth]
  refine rhF.aload_n (pc := 0) dX12_worth_0 0 rfl ?_
  refine rhF.ck (fun h1 => ?_)
  refine rhF.callV (pc := 1) (ci := 12) (embc := rhe1U _) [] dX12_worth_1 ml_X12_467 mv_X12_layNow ⟨_, rfl, rfl⟩ h1 (c_X12_layNow _ _ _ _) (by decide) (by decide) rfl (Nat.le_of_ble_eq_true rfl) (fun r2 _ => ?_)
  refine rhF.aload_n (pc := 4) dX12_worth_4 0 rfl ?_
  refine rhF.callV (pc := 5) (ci := 12) (embc := rhe0I _ _) [] dX12_worth_5 ml_X12_478 mv_X12_worthOfRow ⟨_, rfl, rfl⟩ h1 (c_X12_worthOfRow _ _ _ _) (by decide) (by decide) rfl (Nat.le_of_ble_eq_true rfl) (fun r3 _ => ?_)
  exact rhF.zret (pc := 8) dX12_worth_8 rfl rfl rfl
theorem c_X12_worth (E : rhE) (Γ : rhG) (M : rhM) (v0 : Nat) : ∀ a, f_X12_worth Γ M v0 = some a → rhC E 6 yX12_worth cX12_worth 1 (some .int) [rhR v0] Γ M ((rhe1I Γ) a) := rhF.met (by decide +kernel) (Nat.le_of_ble_eq_true rfl) (b_X12_worth M v0)
def f_X12_fewest (Γ : rhG) (M : rhM) (v0 : Nat) : Option (Int32 × rhM) :=
  rhck (Γ.2.2.1 v0 = 13) <|
  let M2 := rhsi M v0 66 0
  (f_X12_isMany Γ M2 v0).bind fun r3 =>
  if r3 = 0 then
    ((f_X12_search Γ M2 v0 (0 : Int32) (246960 : Int32)).bind fun r5 =>
    let x6 := r5.1
    if x6 < 0 then
      (some (((-1), r5.2)))
    else
      (f_X12_layWay Γ r5.2 v0 x6).bind fun r8 =>
      some ((r8.1 v0 66, r8)))
  else
    some (((-2), M2))
set_option maxHeartbeats 4000000 in
set_option maxRecDepth 100000 in
theorem b_X12_fewest {E : rhE} {Γ : rhG} : ∀ (M : rhM) (v0 : Nat), rhF E 11 2 yX12_fewest cX12_fewest (some .int) Γ (rhe1I Γ) (f_X12_fewest Γ M v0) 0 [(0, rhR v0)] [] Γ M := by
  intro M v0
  rw [f_X12_fewest]
  refine rhF.aload_n (pc := 0) dX12_fewest_0 0 rfl ?_
  refine rhF.iconst (pc := 1) (v := 0) dX12_fewest_1 (by decide) ?_
  refine rhF.ck (fun h1 => ?_)
  refine rhF.puti (pc := 2) dX12_fewest_2 fl_X12_342 h1 (fun q hq => by cases hq; exact Or.inl rfl) ⟨rfl, rfl⟩ (fun _ => rfl) ?_
  refine rhF.aload_n (pc := 5) dX12_fewest_5 0 rfl ?_
  refine rhF.callV (pc := 6) (ci := 12) (embc := rhe0I _ _) [] dX12_fewest_6 ml_X12_515 mv_X12_isMany ⟨_, rfl, rfl⟩ h1 (c_X12_isMany _ _ _ _) (by decide) (by decide) rfl (Nat.le_of_ble_eq_true rfl) (fun r3 _ => ?_)
  refine rhF.if_eq (pc := 9) 15 dX12_fewest_9 (by decide) (fun h4 => ?_) (fun h4 => ?_)
  · refine rhF.aload_n (pc := 15) dX12_fewest_15 0 rfl ?_
    refine rhF.iconst (pc := 16) (v := 0) dX12_fewest_16 (by decide) ?_
    refine rhF.ldc (pc := 17) dX12_fewest_17 k_X12_122 ?_
    refine rhF.callV (pc := 19) (ci := 12) (embc := rhe1I _) [rhI _, rhI _] dX12_fewest_19 ml_X12_518 mv_X12_search ⟨_, rfl, rfl⟩ h1 (c_X12_search _ _ _ _ _ _) (by decide) (by decide) rfl (Nat.le_of_ble_eq_true rfl) (fun r5 _ => ?_)
    refine rhF.istore_n (pc := 22) (L' := [(1, rhI _), (0, rhR _)]) dX12_fewest_22 (by decide) rfl ?_
    refine rhF.iload_n (pc := 23) dX12_fewest_23 0 rfl ?_
    refine rhF.if_ge (pc := 24) 29 dX12_fewest_24 (by decide) (fun h7 => ?_) (fun h7 => ?_)
    · refine rhF.iconst (pc := 27) (v := (-1)) dX12_fewest_27 (by decide) ?_
      exact rhF.zret (pc := 28) dX12_fewest_28 rfl rfl rfl
    · refine rhF.aload_n (pc := 29) dX12_fewest_29 1 rfl ?_
      refine rhF.iload_n (pc := 30) dX12_fewest_30 0 rfl ?_
      refine rhF.callV (pc := 31) (ci := 12) (embc := rhe1U _) [rhI _] dX12_fewest_31 ml_X12_521 mv_X12_layWay ⟨_, rfl, rfl⟩ h1 (c_X12_layWay _ _ _ _ _) (by decide) (by decide) rfl (Nat.le_of_ble_eq_true rfl) (fun r8 _ => ?_)
      refine rhF.aload_n (pc := 34) dX12_fewest_34 1 rfl ?_
      refine rhF.get (pc := 35) (rhI _) dX12_fewest_35 fl_X12_342 h1 rfl ?_
      exact rhF.zret (pc := 38) dX12_fewest_38 rfl rfl rfl
  · refine rhF.bipush (pc := 12) (v := (-2)) dX12_fewest_12 (by decide) ?_
    exact rhF.zret (pc := 14) dX12_fewest_14 rfl rfl rfl
theorem c_X12_fewest (E : rhE) (Γ : rhG) (M : rhM) (v0 : Nat) : ∀ a, f_X12_fewest Γ M v0 = some a → rhC E 11 yX12_fewest cX12_fewest 2 (some .int) [rhR v0] Γ M ((rhe1I Γ) a) := rhF.met (by decide +kernel) (Nat.le_of_ble_eq_true rfl) (b_X12_fewest M v0)
def f_X12_richest_75 (k88 : rhM → Nat → Int32 → Int32 → Int32 → Option (Int32 × rhM)) (Γ : rhG) (M : rhM) (v0 : Nat) (v4 : Int32) : Option (Int32 × rhM) :=
  rhck (Γ.2.2.1 v0 = 13) <|
  rhck (Γ.2.2.1 (M.2.2 v0 58) = 15) <|
  rhck (0 ≤ (v4).toInt ∧ (v4).toInt < (Γ.2.2.2 (M.2.2 v0 58) : Nat)) <|
  let x17 := M.1 (M.2.2 v0 58) v4.toNatClampNeg
  (f_X12_worthOfRow Γ M v0).bind fun r18 =>
  k88 M v0 x17 r18 v4
def f_X12_richest_88 (k40 : rhM → Nat → Int32 → Int32 → Int32 → Option (Int32 × rhM)) (Γ : rhG) (M : rhM) (v0 : Nat) (v2 : Int32) (v3 : Int32) (v4 : Int32) : Option (Int32 × rhM) :=
  let x19 : Int32 := v4 + 1
  k40 M v0 v2 v3 x19
def f_X12_richest_40 (k94 : rhM → Nat → Int32 → Int32 → Option (Int32 × rhM)) (Γ : rhG) : Nat → rhM → Nat → Int32 → Int32 → Int32 → Option (Int32 × rhM)
  | 0, _, _, _, _, _ => none
  | n + 1, M, v0, v2, v3, v4 =>
    rhck (Γ.2.2.1 v0 = 13) <|
    if v4 < (M.1 v0 60) then
      (rhck (Γ.2.2.1 (M.2.2 v0 58) = 15) <|
      rhck (0 ≤ (v4).toInt ∧ (v4).toInt < (Γ.2.2.2 (M.2.2 v0 58) : Nat)) <|
      (f_X12_layState Γ M v0 (M.1 (M.2.2 v0 58) v4.toNatClampNeg)).bind fun r12 =>
      if v2 < 0 then
        (f_X12_richest_75 (f_X12_richest_88 (f_X12_richest_40 k94 Γ n) Γ) Γ r12 v0 v4)
      else
        (f_X12_worthOfRow Γ r12 v0).bind fun r20 =>
        if v3 < r20 then
          (f_X12_richest_75 (f_X12_richest_88 (f_X12_richest_40 k94 Γ n) Γ) Γ r12 v0 v4)
        else
          f_X12_richest_88 (f_X12_richest_40 k94 Γ n) Γ r12 v0 v2 v3 v4)
    else
      k94 M v0 v2 v3
def f_X12_richest_94 (Γ : rhG) (M : rhM) (v0 : Nat) (v2 : Int32) (v3 : Int32) : Option (Int32 × rhM) :=
  rhck (Γ.2.2.1 v0 = 13) <|
  (f_X12_layWay Γ M v0 v2).bind fun r23 =>
  some ((v3, r23))
def f_X12_richest (Γ : rhG) (M : rhM) (v0 : Nat) (v1 : Int32) : Option (Int32 × rhM) :=
  rhck (Γ.2.2.1 v0 = 13) <|
  let M2 := rhsi M v0 66 0
  (f_X12_isIn Γ M2 v1 (0 : Int32) (30 : Int32)).bind fun r3 =>
  if r3 = 0 then
    (some (((-1000000), M2)))
  else
    (f_X12_isMany Γ M2 v0).bind fun r5 =>
    if r5 = 0 then
      ((f_X12_search Γ M2 v0 (2 : Int32) v1).bind fun r7 =>
      f_X12_richest_40 (f_X12_richest_94 Γ) Γ rhFU r7.2 v0 ((-1)) 0 0)
    else
      some (((-1000000), M2))
set_option maxHeartbeats 4000000 in
set_option maxRecDepth 100000 in
theorem b_X12_richest_75 {E : rhE} {Γ : rhG} {k88 : rhM → Nat → Int32 → Int32 → Int32 → Option (Int32 × rhM)} (hk88 : ∀ (M : rhM) (v0 : Nat) (v2 : Int32) (v3 : Int32) (v4 : Int32), rhF E 11 5 yX12_richest cX12_richest (some .int) Γ (rhe1I Γ) (k88 M v0 v2 v3 v4) 88 [(0, rhR v0), (2, rhI v2), (3, rhI v3), (4, rhI v4)] [] Γ M) : ∀ (M : rhM) (v0 : Nat) (v4 : Int32), rhF E 11 5 yX12_richest cX12_richest (some .int) Γ (rhe1I Γ) (f_X12_richest_75 k88 Γ M v0 v4) 75 [(0, rhR v0), (4, rhI v4)] [] Γ M := by
  intro M v0 v4
  rw [f_X12_richest_75]
  refine rhF.aload_n (pc := 75) dX12_richest_75 0 rfl ?_
  refine rhF.ck (fun h14 => ?_)
  refine rhF.get (pc := 76) (rhR _) dX12_richest_76 fl_X12_136 h14 rfl ?_
  refine rhF.iload (pc := 79) dX12_richest_79 1 rfl ?_
  refine rhF.ck (fun h15 => ?_)
  refine rhF.ck (fun h16 => ?_)
  refine rhF.iald (pc := 81) dX12_richest_81 h15 h16 ?_
  refine rhF.istore_n (pc := 82) (L' := [(2, rhI _), (0, rhR _), (4, rhI _)]) dX12_richest_82 (by decide) rfl ?_
  refine rhF.aload_n (pc := 83) dX12_richest_83 1 rfl ?_
  refine rhF.callV (pc := 84) (ci := 12) (embc := rhe0I _ _) [] dX12_richest_84 ml_X12_478 mv_X12_worthOfRow ⟨_, rfl, rfl⟩ h14 (c_X12_worthOfRow _ _ _ _) (by decide) (by decide) rfl (Nat.le_of_ble_eq_true rfl) (fun r18 _ => ?_)
  refine rhF.istore_n (pc := 87) (L' := [(3, rhI _), (2, rhI _), (0, rhR _), (4, rhI _)]) dX12_richest_87 (by decide) rfl ?_
  refine rhF.sub [2, 1, 0, 3] rfl ?_
  exact hk88 _ _ _ _ _
set_option maxHeartbeats 4000000 in
set_option maxRecDepth 100000 in
theorem b_X12_richest_88 {E : rhE} {Γ : rhG} {k40 : rhM → Nat → Int32 → Int32 → Int32 → Option (Int32 × rhM)} (hk40 : ∀ (M : rhM) (v0 : Nat) (v2 : Int32) (v3 : Int32) (v4 : Int32), rhF E 11 5 yX12_richest cX12_richest (some .int) Γ (rhe1I Γ) (k40 M v0 v2 v3 v4) 40 [(0, rhR v0), (2, rhI v2), (3, rhI v3), (4, rhI v4)] [] Γ M) : ∀ (M : rhM) (v0 : Nat) (v2 : Int32) (v3 : Int32) (v4 : Int32), rhF E 11 5 yX12_richest cX12_richest (some .int) Γ (rhe1I Γ) (f_X12_richest_88 k40 Γ M v0 v2 v3 v4) 88 [(0, rhR v0), (2, rhI v2), (3, rhI v3), (4, rhI v4)] [] Γ M := by
  intro M v0 v2 v3 v4
  rw [f_X12_richest_88]
  refine rhF.iinc (pc := 88) (L' := [(4, rhI _), (0, rhR _), (2, rhI _), (3, rhI _)]) dX12_richest_88 3 rfl rfl (by decide) rfl ?_
  refine rhF.goto (pc := 91) 40 dX12_richest_91 (by decide) ?_
  refine rhF.sub [1, 2, 3, 0] rfl ?_
  exact hk40 _ _ _ _ _
set_option maxHeartbeats 4000000 in
set_option maxRecDepth 100000 in
theorem b_X12_richest_40 {E : rhE} {Γ : rhG} {k94 : rhM → Nat → Int32 → Int32 → Option (Int32 × rhM)} (hk94 : ∀ (M : rhM) (v0 : Nat) (v2 : Int32) (v3 : Int32), rhF E 11 5 yX12_richest cX12_richest (some .int) Γ (rhe1I Γ) (k94 M v0 v2 v3) 94 [(0, rhR v0), (2, rhI v2), (3, rhI v3)] [] Γ M) : ∀ (n : Nat) (M : rhM) (v0 : Nat) (v2 : Int32) (v3 : Int32) (v4 : Int32), rhF E 11 5 yX12_richest cX12_richest (some .int) Γ (rhe1I Γ) (f_X12_richest_40 k94 Γ n M v0 v2 v3 v4) 40 [(0, rhR v0), (2, rhI v2), (3, rhI v3), (4, rhI v4)] [] Γ M := by
  intro n
  induction n with
  | zero => intro M v0 v2 v3 v4; rw [f_X12_richest_40]; exact rhF.nope
  | succ n ih =>
    intro M v0 v2 v3 v4
    rw [f_X12_richest_40]
    refine rhF.iload (pc := 40) dX12_richest_40 3 rfl ?_
    refine rhF.aload_n (pc := 42) dX12_richest_42 0 rfl ?_
    refine rhF.ck (fun h8 => ?_)
    refine rhF.get (pc := 43) (rhI _) dX12_richest_43 fl_X12_493 h8 rfl ?_
    refine rhF.icmp_ge (pc := 46) 94 dX12_richest_46 (by decide) (fun h9 => ?_) (fun h9 => ?_)
    · refine rhF.aload_n (pc := 49) dX12_richest_49 0 rfl ?_
      refine rhF.aload_n (pc := 50) dX12_richest_50 0 rfl ?_
      refine rhF.get (pc := 51) (rhR _) dX12_richest_51 fl_X12_136 h8 rfl ?_
      refine rhF.iload (pc := 54) dX12_richest_54 3 rfl ?_
      refine rhF.ck (fun h10 => ?_)
      refine rhF.ck (fun h11 => ?_)
      refine rhF.iald (pc := 56) dX12_richest_56 h10 h11 ?_
      refine rhF.callV (pc := 57) (ci := 12) (embc := rhe1U _) [rhI _] dX12_richest_57 ml_X12_499 mv_X12_layState ⟨_, rfl, rfl⟩ h8 (c_X12_layState _ _ _ _ _) (by decide) (by decide) rfl (Nat.le_of_ble_eq_true rfl) (fun r12 _ => ?_)
      refine rhF.iload_n (pc := 60) dX12_richest_60 1 rfl ?_
      refine rhF.if_lt (pc := 61) 75 dX12_richest_61 (by decide) (fun h13 => ?_) (fun h13 => ?_)
      · refine rhF.sub [0, 3] rfl ?_
        exact (b_X12_richest_75 (b_X12_richest_88 ih)) _ _ _
      · refine rhF.aload_n (pc := 64) dX12_richest_64 0 rfl ?_
        refine rhF.callV (pc := 65) (ci := 12) (embc := rhe0I _ _) [] dX12_richest_65 ml_X12_478 mv_X12_worthOfRow ⟨_, rfl, rfl⟩ h8 (c_X12_worthOfRow _ _ _ _) (by decide) (by decide) rfl (Nat.le_of_ble_eq_true rfl) (fun r20 _ => ?_)
        refine rhF.iload_n (pc := 68) dX12_richest_68 2 rfl ?_
        refine rhF.icmp_gt (pc := 69) 75 dX12_richest_69 (by decide) (fun h21 => ?_) (fun h21 => ?_)
        · refine rhF.sub [0, 3] rfl ?_
          exact (b_X12_richest_75 (b_X12_richest_88 ih)) _ _ _
        · refine rhF.goto (pc := 72) 88 dX12_richest_72 (by decide) ?_
          exact (b_X12_richest_88 ih) _ _ _ _ _
    · refine rhF.sub [0, 1, 2] rfl ?_
      exact hk94 _ _ _ _
set_option maxHeartbeats 4000000 in
set_option maxRecDepth 100000 in
theorem b_X12_richest_94 {E : rhE} {Γ : rhG} : ∀ (M : rhM) (v0 : Nat) (v2 : Int32) (v3 : Int32), rhF E 11 5 yX12_richest cX12_richest (some .int) Γ (rhe1I Γ) (f_X12_richest_94 Γ M v0 v2 v3) 94 [(0, rhR v0), (2, rhI v2), (3, rhI v3)] [] Γ M := by
  intro M v0 v2 v3
  rw [f_X12_richest_94]
  refine rhF.aload_n (pc := 94) dX12_richest_94 0 rfl ?_
  refine rhF.iload_n (pc := 95) dX12_richest_95 1 rfl ?_
  refine rhF.ck (fun h22 => ?_)
  refine rhF.callV (pc := 96) (ci := 12) (embc := rhe1U _) [rhI _] dX12_richest_96 ml_X12_521 mv_X12_layWay ⟨_, rfl, rfl⟩ h22 (c_X12_layWay _ _ _ _ _) (by decide) (by decide) rfl (Nat.le_of_ble_eq_true rfl) (fun r23 _ => ?_)
  refine rhF.iload_n (pc := 99) dX12_richest_99 2 rfl ?_
  exact rhF.zret (pc := 100) dX12_richest_100 rfl rfl rfl
set_option maxHeartbeats 4000000 in
set_option maxRecDepth 100000 in
theorem b_X12_richest {E : rhE} {Γ : rhG} : ∀ (M : rhM) (v0 : Nat) (v1 : Int32), rhF E 11 5 yX12_richest cX12_richest (some .int) Γ (rhe1I Γ) (f_X12_richest Γ M v0 v1) 0 [(0, rhR v0), (1, rhI v1)] [] Γ M := by
  intro M v0 v1
  rw [f_X12_richest]
  refine rhF.aload_n (pc := 0) dX12_richest_0 0 rfl ?_
  refine rhF.iconst (pc := 1) (v := 0) dX12_richest_1 (by decide) ?_
  refine rhF.ck (fun h1 => ?_)
  refine rhF.puti (pc := 2) dX12_richest_2 fl_X12_342 h1 (fun q hq => by cases hq; exact Or.inl rfl) ⟨rfl, rfl⟩ (fun _ => rfl) ?_
  refine rhF.iload_n (pc := 5) dX12_richest_5 1 rfl ?_
  refine rhF.iconst (pc := 6) (v := 0) dX12_richest_6 (by decide) ?_
  refine rhF.bipush (pc := 7) (v := 30) dX12_richest_7 (by decide) ?_
  refine rhF.callS (pc := 9) (embc := rhe0I _ _) [rhI _, rhI _, rhI _] dX12_richest_9 ml_X12_415 ms_X12_isIn (c_X12_isIn _ _ _ _ _ _) (by decide) (by decide) rfl (Nat.le_of_ble_eq_true rfl) (fun r3 _ => ?_)
  refine rhF.if_eq (pc := 12) 22 dX12_richest_12 (by decide) (fun h4 => ?_) (fun h4 => ?_)
  · refine rhF.ldcw (pc := 22) dX12_richest_22 k_X12_470 ?_
    exact rhF.zret (pc := 25) dX12_richest_25 rfl rfl rfl
  · refine rhF.aload_n (pc := 15) dX12_richest_15 0 rfl ?_
    refine rhF.callV (pc := 16) (ci := 12) (embc := rhe0I _ _) [] dX12_richest_16 ml_X12_515 mv_X12_isMany ⟨_, rfl, rfl⟩ h1 (c_X12_isMany _ _ _ _) (by decide) (by decide) rfl (Nat.le_of_ble_eq_true rfl) (fun r5 _ => ?_)
    refine rhF.if_eq (pc := 19) 26 dX12_richest_19 (by decide) (fun h6 => ?_) (fun h6 => ?_)
    · refine rhF.aload_n (pc := 26) dX12_richest_26 0 rfl ?_
      refine rhF.iconst (pc := 27) (v := 2) dX12_richest_27 (by decide) ?_
      refine rhF.iload_n (pc := 28) dX12_richest_28 1 rfl ?_
      refine rhF.callV (pc := 29) (ci := 12) (embc := rhe1I _) [rhI _, rhI _] dX12_richest_29 ml_X12_518 mv_X12_search ⟨_, rfl, rfl⟩ h1 (c_X12_search _ _ _ _ _ _) (by decide) (by decide) rfl (Nat.le_of_ble_eq_true rfl) (fun r7 _ => ?_)
      refine rhF.pop (pc := 32) dX12_richest_32 ?_
      refine rhF.iconst (pc := 33) (v := (-1)) dX12_richest_33 (by decide) ?_
      refine rhF.istore_n (pc := 34) (L' := [(2, rhI _), (0, rhR _), (1, rhI _)]) dX12_richest_34 (by decide) rfl ?_
      refine rhF.iconst (pc := 35) (v := 0) dX12_richest_35 (by decide) ?_
      refine rhF.istore_n (pc := 36) (L' := [(3, rhI _), (2, rhI _), (0, rhR _), (1, rhI _)]) dX12_richest_36 (by decide) rfl ?_
      refine rhF.iconst (pc := 37) (v := 0) dX12_richest_37 (by decide) ?_
      refine rhF.istore (pc := 38) (L' := [(4, rhI _), (3, rhI _), (2, rhI _), (0, rhR _), (1, rhI _)]) dX12_richest_38 (by decide) rfl ?_
      refine rhF.sub [3, 2, 1, 0] rfl ?_
      exact (b_X12_richest_40 (b_X12_richest_94) rhFU) _ _ _ _ _
    · refine rhF.ldcw (pc := 22) dX12_richest_22 k_X12_470 ?_
      exact rhF.zret (pc := 25) dX12_richest_25 rfl rfl rfl
theorem c_X12_richest (E : rhE) (Γ : rhG) (M : rhM) (v0 : Nat) (v1 : Int32) : ∀ a, f_X12_richest Γ M v0 v1 = some a → rhC E 11 yX12_richest cX12_richest 5 (some .int) [rhR v0, rhI v1] Γ M ((rhe1I Γ) a) := rhF.met (by decide +kernel) (Nat.le_of_ble_eq_true rfl) (b_X12_richest M v0 v1)
def f_X12_pull (Γ : rhG) (M : rhM) (v0 : Nat) (v1 : Int32) (v2 : Int32) (v3 : Int32) : Option (Int32 × rhM) :=
  rhck (Γ.2.2.1 v0 = 13) <|
  (f_X12_layNow Γ M v0).bind fun r2 =>
  if (r2.1 v0 48) = 300 then
    (some (((-1), r2)))
  else
    (f_X12_isLawful Γ r2 v0 v1 v2 v3).bind fun r4 =>
    if r4.1 = 0 then
      (some (((-1), r4.2)))
    else
      (f_X12_sumOf Γ r4.2 v0 (r4.2.2.2 v0 20) v1 v2).bind fun r6 =>
      rhck (Γ.2.2.1 (r4.2.2.2 v0 47) = 15) <|
      rhck (0 ≤ (r4.2.1 v0 48).toInt ∧ (r4.2.1 v0 48).toInt < (Γ.2.2.2 (r4.2.2.2 v0 47) : Nat)) <|
      let M9 := rhsi r4.2 (r4.2.2.2 v0 47) (r4.2.1 v0 48 : Int32).toNatClampNeg r6
      rhck (0 ≤ (M9.1 v0 48).toInt ∧ (M9.1 v0 48).toInt < (Γ.2.2.2 (r4.2.2.2 v0 47) : Nat)) <|
      let M11 := rhsi M9 v0 49 ((M9.1 v0 49) + (M9.1 (r4.2.2.2 v0 47) (M9.1 v0 48).toNatClampNeg))
      rhck (Γ.2.2.1 (r4.2.2.2 v0 46) = 15) <|
      rhck (0 ≤ (M11.1 v0 48).toInt ∧ (M11.1 v0 48).toInt < (Γ.2.2.2 (r4.2.2.2 v0 46) : Nat)) <|
      let M14 := rhsi M11 (r4.2.2.2 v0 46) (M11.1 v0 48 : Int32).toNatClampNeg (((100 * v1) + (10 * v2)) + v3)
      let M15 := rhsi M14 v0 48 ((M14.1 v0 48) + 1)
      (f_X12_moves Γ M15 v0 v1 v2 v3).bind fun r16 =>
      (f_X12_keepNow Γ r16 v0).bind fun r17 =>
      rhck (Γ.2.2.1 (r17.2.2 v0 47) = 15) <|
      rhck (0 ≤ ((r17.1 v0 48) - 1).toInt ∧ ((r17.1 v0 48) - 1).toInt < (Γ.2.2.2 (r17.2.2 v0 47) : Nat)) <|
      some ((r17.1 (r17.2.2 v0 47) ((r17.1 v0 48) - 1).toNatClampNeg, r17))
set_option maxHeartbeats 4000000 in
set_option maxRecDepth 100000 in
theorem b_X12_pull {E : rhE} {Γ : rhG} : ∀ (M : rhM) (v0 : Nat) (v1 : Int32) (v2 : Int32) (v3 : Int32), rhF E 9 4 yX12_pull cX12_pull (some .int) Γ (rhe1I Γ) (f_X12_pull Γ M v0 v1 v2 v3) 0 [(0, rhR v0), (1, rhI v1), (2, rhI v2), (3, rhI v3)] [] Γ M := by
  intro M v0 v1 v2 v3
  rw [f_X12_pull]
  refine rhF.aload_n (pc := 0) dX12_pull_0 0 rfl ?_
  refine rhF.ck (fun h1 => ?_)
  refine rhF.callV (pc := 1) (ci := 12) (embc := rhe1U _) [] dX12_pull_1 ml_X12_467 mv_X12_layNow ⟨_, rfl, rfl⟩ h1 (c_X12_layNow _ _ _ _) (by decide) (by decide) rfl (Nat.le_of_ble_eq_true rfl) (fun r2 _ => ?_)
  refine rhF.aload_n (pc := 4) dX12_pull_4 0 rfl ?_
  refine rhF.get (pc := 5) (rhI _) dX12_pull_5 fl_X12_458 h1 rfl ?_
  refine rhF.sipush (pc := 8) (v := 300) dX12_pull_8 (by decide) ?_
  refine rhF.icmp_eq (pc := 11) 24 dX12_pull_11 (by decide) (fun h3 => ?_) (fun h3 => ?_)
  · refine rhF.iconst (pc := 24) (v := (-1)) dX12_pull_24 (by decide) ?_
    exact rhF.zret (pc := 25) dX12_pull_25 rfl rfl rfl
  · refine rhF.aload_n (pc := 14) dX12_pull_14 0 rfl ?_
    refine rhF.iload_n (pc := 15) dX12_pull_15 1 rfl ?_
    refine rhF.iload_n (pc := 16) dX12_pull_16 2 rfl ?_
    refine rhF.iload_n (pc := 17) dX12_pull_17 3 rfl ?_
    refine rhF.callV (pc := 18) (ci := 12) (embc := rhe1I _) [rhI _, rhI _, rhI _] dX12_pull_18 ml_X12_471 mv_X12_isLawful ⟨_, rfl, rfl⟩ h1 (c_X12_isLawful _ _ _ _ _ _ _) (by decide) (by decide) rfl (Nat.le_of_ble_eq_true rfl) (fun r4 _ => ?_)
    refine rhF.if_ne (pc := 21) 26 dX12_pull_21 (by decide) (fun h5 => ?_) (fun h5 => ?_)
    · refine rhF.iconst (pc := 24) (v := (-1)) dX12_pull_24 (by decide) ?_
      exact rhF.zret (pc := 25) dX12_pull_25 rfl rfl rfl
    · refine rhF.aload_n (pc := 26) dX12_pull_26 0 rfl ?_
      refine rhF.get (pc := 27) (rhR _) dX12_pull_27 fl_X12_113 h1 rfl ?_
      refine rhF.aload_n (pc := 30) dX12_pull_30 0 rfl ?_
      refine rhF.get (pc := 31) (rhI _) dX12_pull_31 fl_X12_458 h1 rfl ?_
      refine rhF.aload_n (pc := 34) dX12_pull_34 0 rfl ?_
      refine rhF.aload_n (pc := 35) dX12_pull_35 0 rfl ?_
      refine rhF.get (pc := 36) (rhR _) dX12_pull_36 fl_X12_48 h1 rfl ?_
      refine rhF.iload_n (pc := 39) dX12_pull_39 1 rfl ?_
      refine rhF.iload_n (pc := 40) dX12_pull_40 2 rfl ?_
      refine rhF.callV (pc := 41) (ci := 12) (embc := rhe0I _ _) [rhR _, rhI _, rhI _] dX12_pull_41 ml_X12_431 mv_X12_sumOf ⟨_, rfl, rfl⟩ h1 (c_X12_sumOf _ _ _ _ _ _ _) (by decide) (by decide) rfl (Nat.le_of_ble_eq_true rfl) (fun r6 _ => ?_)
      refine rhF.ck (fun h7 => ?_)
      refine rhF.ck (fun h8 => ?_)
      refine rhF.iast (pc := 44) dX12_pull_44 h7 h8 ?_
      refine rhF.aload_n (pc := 45) dX12_pull_45 0 rfl ?_
      refine rhF.dupr (pc := 46) dX12_pull_46 ?_
      refine rhF.get (pc := 47) (rhI _) dX12_pull_47 fl_X12_461 h1 rfl ?_
      refine rhF.aload_n (pc := 50) dX12_pull_50 0 rfl ?_
      refine rhF.get (pc := 51) (rhR _) dX12_pull_51 fl_X12_113 h1 rfl ?_
      refine rhF.aload_n (pc := 54) dX12_pull_54 0 rfl ?_
      refine rhF.get (pc := 55) (rhI _) dX12_pull_55 fl_X12_458 h1 rfl ?_
      refine rhF.ck (fun h10 => ?_)
      refine rhF.iald (pc := 58) dX12_pull_58 h7 h10 ?_
      refine rhF.iadd (pc := 59) dX12_pull_59 ?_
      refine rhF.puti (pc := 60) dX12_pull_60 fl_X12_461 h1 (fun q hq => by cases hq; exact Or.inl rfl) ⟨rfl, rfl⟩ (fun _ => rfl) ?_
      refine rhF.aload_n (pc := 63) dX12_pull_63 0 rfl ?_
      refine rhF.get (pc := 64) (rhR _) dX12_pull_64 fl_X12_110 h1 rfl ?_
      refine rhF.aload_n (pc := 67) dX12_pull_67 0 rfl ?_
      refine rhF.get (pc := 68) (rhI _) dX12_pull_68 fl_X12_458 h1 rfl ?_
      refine rhF.bipush (pc := 71) (v := 100) dX12_pull_71 (by decide) ?_
      refine rhF.iload_n (pc := 73) dX12_pull_73 1 rfl ?_
      refine rhF.imul (pc := 74) dX12_pull_74 ?_
      refine rhF.bipush (pc := 75) (v := 10) dX12_pull_75 (by decide) ?_
      refine rhF.iload_n (pc := 77) dX12_pull_77 2 rfl ?_
      refine rhF.imul (pc := 78) dX12_pull_78 ?_
      refine rhF.iadd (pc := 79) dX12_pull_79 ?_
      refine rhF.iload_n (pc := 80) dX12_pull_80 3 rfl ?_
      refine rhF.iadd (pc := 81) dX12_pull_81 ?_
      refine rhF.ck (fun h12 => ?_)
      refine rhF.ck (fun h13 => ?_)
      refine rhF.iast (pc := 82) dX12_pull_82 h12 h13 ?_
      refine rhF.aload_n (pc := 83) dX12_pull_83 0 rfl ?_
      refine rhF.dupr (pc := 84) dX12_pull_84 ?_
      refine rhF.get (pc := 85) (rhI _) dX12_pull_85 fl_X12_458 h1 rfl ?_
      refine rhF.iconst (pc := 88) (v := 1) dX12_pull_88 (by decide) ?_
      refine rhF.iadd (pc := 89) dX12_pull_89 ?_
      refine rhF.puti (pc := 90) dX12_pull_90 fl_X12_458 h1 (fun q hq => by cases hq; exact Or.inl rfl) ⟨rfl, rfl⟩ (fun _ => rfl) ?_
      refine rhF.aload_n (pc := 93) dX12_pull_93 0 rfl ?_
      refine rhF.iload_n (pc := 94) dX12_pull_94 1 rfl ?_
      refine rhF.iload_n (pc := 95) dX12_pull_95 2 rfl ?_
      refine rhF.iload_n (pc := 96) dX12_pull_96 3 rfl ?_
      refine rhF.callV (pc := 97) (ci := 12) (embc := rhe1U _) [rhI _, rhI _, rhI _] dX12_pull_97 ml_X12_474 mv_X12_moves ⟨_, rfl, rfl⟩ h1 (c_X12_moves _ _ _ _ _ _ _) (by decide) (by decide) rfl (Nat.le_of_ble_eq_true rfl) (fun r16 _ => ?_)
      refine rhF.aload_n (pc := 100) dX12_pull_100 0 rfl ?_
      refine rhF.callV (pc := 101) (ci := 12) (embc := rhe1U _) [] dX12_pull_101 ml_X12_455 mv_X12_keepNow ⟨_, rfl, rfl⟩ h1 (c_X12_keepNow _ _ _ _) (by decide) (by decide) rfl (Nat.le_of_ble_eq_true rfl) (fun r17 _ => ?_)
      refine rhF.aload_n (pc := 104) dX12_pull_104 0 rfl ?_
      refine rhF.get (pc := 105) (rhR _) dX12_pull_105 fl_X12_113 h1 rfl ?_
      refine rhF.aload_n (pc := 108) dX12_pull_108 0 rfl ?_
      refine rhF.get (pc := 109) (rhI _) dX12_pull_109 fl_X12_458 h1 rfl ?_
      refine rhF.iconst (pc := 112) (v := 1) dX12_pull_112 (by decide) ?_
      refine rhF.isub (pc := 113) dX12_pull_113 ?_
      refine rhF.ck (fun h18 => ?_)
      refine rhF.ck (fun h19 => ?_)
      refine rhF.iald (pc := 114) dX12_pull_114 h18 h19 ?_
      exact rhF.zret (pc := 115) dX12_pull_115 rfl rfl rfl
theorem c_X12_pull (E : rhE) (Γ : rhG) (M : rhM) (v0 : Nat) (v1 : Int32) (v2 : Int32) (v3 : Int32) : ∀ a, f_X12_pull Γ M v0 v1 v2 v3 = some a → rhC E 9 yX12_pull cX12_pull 4 (some .int) [rhR v0, rhI v1, rhI v2, rhI v3] Γ M ((rhe1I Γ) a) := rhF.met (by decide +kernel) (Nat.le_of_ble_eq_true rfl) (b_X12_pull M v0 v1 v2 v3)
