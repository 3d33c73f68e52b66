def f_X5_weigh_52 (k110 : rhM → Nat → Int32 → Option (Int32 × rhM)) (Γ : rhG) : Nat → rhM → Nat → Int32 → Int32 → Option (Int32 × rhM)
  | 0, _, _, _, _ => none
  | n + 1, M, v0, v4, v6 =>
    rhck (Γ.2.2.1 v0 = 6) <|
    rhck (Γ.2.2.1 (M.2.2 v0 1) = 1) <|
    if v6 < (M.1 (M.2.2 v0 1) 0) then
      ((f_X0_headOf Γ M (M.2.2 v0 1) v4).bind fun r14 =>
      if r14 = 65535 then
        (k110 M v0 v4)
      else
        (f_X0_headOf Γ M (M.2.2 v0 1) v4).bind fun r16 =>
        (f_X0_drop Γ M (M.2.2 v0 1) r16).bind fun r17 =>
        (f_X5_weighOn Γ r17 v0 r16).bind fun r18 =>
        let x19 : Int32 := v6 + 1
        f_X5_weigh_52 k110 Γ n r18 v0 v4 x19)
    else
      k110 M v0 v4
def f_X5_weigh_110 (k15 : rhM → Nat → Int32 → Option (Int32 × rhM)) (Γ : rhG) (M : rhM) (v0 : Nat) (v4 : Int32) : Option (Int32 × rhM) :=
  let x20 : Int32 := v4 + 1
  k15 M v0 x20
def f_X5_weigh_15 (Γ : rhG) : Nat → rhM → Nat → Int32 → Option (Int32 × rhM)
  | 0, _, _, _ => none
  | n + 1, M, v0, v4 =>
    if 36000000 < v4 then
      (some (((-1), M)))
    else
      rhck (Γ.2.2.1 v0 = 6) <|
      rhck (Γ.2.2.1 (M.2.2 v0 1) = 1) <|
      if 0 < (M.1 (M.2.2 v0 1) 1) then
        ((f_X5_bestMet Γ M v0 v4).bind fun r8 =>
        let x9 := r8.1
        if x9 = ((-1)) then
          (f_X5_weigh_52 (f_X5_weigh_110 (f_X5_weigh_15 Γ n) Γ) Γ rhFU r8.2 v0 v4 0)
        else
          some ((x9, r8.2)))
      else
        some (((-1), M))
def f_X5_weigh (Γ : rhG) (M : rhM) (v0 : Nat) (v1 : Nat) (v2 : Int64) : Option (Int32 × rhM) :=
  rhck (Γ.2.2.1 v0 = 6) <|
  (f_X5_begin Γ M v0 v1 v2).bind fun r2 =>
  if r2.1 = ((-1)) then
    (some (((-1), r2.2)))
  else
    f_X5_weigh_15 Γ rhFU r2.2 v0 0
set_option maxHeartbeats 4000000 in
set_option maxRecDepth 100000 in
theorem b_X5_weigh_52 {E : rhE} {Γ : rhG} {k110 : rhM → Nat → Int32 → Option (Int32 × rhM)} (hk110 : ∀ (M : rhM) (v0 : Nat) (v4 : Int32), rhF E 10 8 yX5_weigh cX5_weigh (some .int) Γ (rhe1I Γ) (k110 M v0 v4) 110 [(0, rhR v0), (4, rhI v4)] [] Γ M) : ∀ (n : Nat) (M : rhM) (v0 : Nat) (v4 : Int32) (v6 : Int32), rhF E 10 8 yX5_weigh cX5_weigh (some .int) Γ (rhe1I Γ) (f_X5_weigh_52 k110 Γ n M v0 v4 v6) 52 [(0, rhR v0), (4, rhI v4), (6, rhI v6)] [] Γ M := by
  intro n
  induction n with
  | zero => intro M v0 v4 v6; rw [f_X5_weigh_52]; exact rhF.nope
  | succ n ih =>
    intro M v0 v4 v6
    rw [f_X5_weigh_52]
    refine rhF.iload (pc := 52) dX5_weigh_52 2 rfl ?_
    refine rhF.aload_n (pc := 54) dX5_weigh_54 0 rfl ?_
    refine rhF.ck (fun h11 => ?_)
    refine rhF.get (pc := 55) (rhR _) dX5_weigh_55 fl_X5_14 h11 rfl ?_
    refine rhF.ck (fun h12 => ?_)
    refine rhF.get (pc := 58) (rhI _) dX5_weigh_58 fl_X5_45 h12 rfl ?_
    refine rhF.icmp_ge (pc := 61) 110 dX5_weigh_61 (by decide) (fun h13 => ?_) (fun h13 => ?_)
    · refine rhF.aload_n (pc := 64) dX5_weigh_64 0 rfl ?_
      refine rhF.get (pc := 65) (rhR _) dX5_weigh_65 fl_X5_14 h11 rfl ?_
      refine rhF.iload (pc := 68) dX5_weigh_68 1 rfl ?_
      refine rhF.callV (pc := 70) (ci := 0) (embc := rhe0I _ _) [rhI _] dX5_weigh_70 ml_X5_184 mv_X0_headOf ⟨_, rfl, rfl⟩ h12 (c_X0_headOf _ _ _ _ _) (by decide) (by decide) rfl (Nat.le_of_ble_eq_true rfl) (fun r14 _ => ?_)
      refine rhF.ldc (pc := 73) dX5_weigh_73 k_X5_122 ?_
      refine rhF.icmp_eq (pc := 75) 110 dX5_weigh_75 (by decide) (fun h15 => ?_) (fun h15 => ?_)
      · refine rhF.sub [0, 1] rfl ?_
        exact hk110 _ _ _
      · refine rhF.aload_n (pc := 78) dX5_weigh_78 0 rfl ?_
        refine rhF.get (pc := 79) (rhR _) dX5_weigh_79 fl_X5_14 h11 rfl ?_
        refine rhF.iload (pc := 82) dX5_weigh_82 1 rfl ?_
        refine rhF.callV (pc := 84) (ci := 0) (embc := rhe0I _ _) [rhI _] dX5_weigh_84 ml_X5_184 mv_X0_headOf ⟨_, rfl, rfl⟩ h12 (c_X0_headOf _ _ _ _ _) (by decide) (by decide) rfl (Nat.le_of_ble_eq_true rfl) (fun r16 _ => ?_)
        refine rhF.istore (pc := 87) (L' := [(7, rhI _), (0, rhR _), (4, rhI _), (6, rhI _)]) dX5_weigh_87 (by decide) rfl ?_
        refine rhF.aload_n (pc := 89) dX5_weigh_89 1 rfl ?_
        refine rhF.get (pc := 90) (rhR _) dX5_weigh_90 fl_X5_14 h11 rfl ?_
        refine rhF.iload (pc := 93) dX5_weigh_93 0 rfl ?_
        refine rhF.callV (pc := 95) (ci := 0) (embc := rhe1U _) [rhI _] dX5_weigh_95 ml_X5_187 mv_X0_drop ⟨_, rfl, rfl⟩ h12 (c_X0_drop _ _ _ _ _) (by decide) (by decide) rfl (Nat.le_of_ble_eq_true rfl) (fun r17 _ => ?_)
        refine rhF.aload_n (pc := 98) dX5_weigh_98 1 rfl ?_
        refine rhF.iload (pc := 99) dX5_weigh_99 0 rfl ?_
        refine rhF.callV (pc := 101) (ci := 5) (embc := rhe1U _) [rhI _] dX5_weigh_101 ml_X5_190 mv_X5_weighOn ⟨_, rfl, rfl⟩ h11 (c_X5_weighOn _ _ _ _ _) (by decide) (by decide) rfl (Nat.le_of_ble_eq_true rfl) (fun r18 _ => ?_)
        refine rhF.iinc (pc := 104) (L' := [(6, rhI _), (7, rhI _), (0, rhR _), (4, rhI _)]) dX5_weigh_104 3 rfl rfl (by decide) rfl ?_
        refine rhF.goto (pc := 107) 52 dX5_weigh_107 (by decide) ?_
        refine rhF.sub [2, 3, 0] rfl ?_
        exact ih _ _ _ _
    · refine rhF.sub [0, 1] rfl ?_
      exact hk110 _ _ _
set_option maxHeartbeats 4000000 in
set_option maxRecDepth 100000 in
theorem b_X5_weigh_110 {E : rhE} {Γ : rhG} {k15 : rhM → Nat → Int32 → Option (Int32 × rhM)} (hk15 : ∀ (M : rhM) (v0 : Nat) (v4 : Int32), rhF E 10 8 yX5_weigh cX5_weigh (some .int) Γ (rhe1I Γ) (k15 M v0 v4) 15 [(0, rhR v0), (4, rhI v4)] [] Γ M) : ∀ (M : rhM) (v0 : Nat) (v4 : Int32), rhF E 10 8 yX5_weigh cX5_weigh (some .int) Γ (rhe1I Γ) (f_X5_weigh_110 k15 Γ M v0 v4) 110 [(0, rhR v0), (4, rhI v4)] [] Γ M := by
  intro M v0 v4
  rw [f_X5_weigh_110]
  refine rhF.iinc (pc := 110) (L' := [(4, rhI _), (0, rhR _)]) dX5_weigh_110 1 rfl rfl (by decide) rfl ?_
  refine rhF.goto (pc := 113) 15 dX5_weigh_113 (by decide) ?_
  refine rhF.sub [1, 0] rfl ?_
  exact hk15 _ _ _
set_option maxHeartbeats 4000000 in
set_option maxRecDepth 100000 in
theorem b_X5_weigh_15 {E : rhE} {Γ : rhG} : ∀ (n : Nat) (M : rhM) (v0 : Nat) (v4 : Int32), rhF E 10 8 yX5_weigh cX5_weigh (some .int) Γ (rhe1I Γ) (f_X5_weigh_15 Γ n M v0 v4) 15 [(0, rhR v0), (4, rhI v4)] [] Γ M := by
  intro n
  induction n with
  | zero => intro M v0 v4; rw [f_X5_weigh_15]; exact rhF.nope
  | succ n ih =>
    intro M v0 v4
    rw [f_X5_weigh_15]
    refine rhF.iload (pc := 15) dX5_weigh_15 1 rfl ?_
    refine rhF.ldc (pc := 17) dX5_weigh_17 k_X5_177 ?_
    refine rhF.icmp_gt (pc := 19) 116 dX5_weigh_19 (by decide) (fun h4 => ?_) (fun h4 => ?_)
    · refine rhF.iconst (pc := 116) (v := (-1)) dX5_weigh_116 (by decide) ?_
      exact rhF.zret (pc := 117) dX5_weigh_117 rfl rfl rfl
    · refine rhF.aload_n (pc := 22) dX5_weigh_22 0 rfl ?_
      refine rhF.ck (fun h5 => ?_)
      refine rhF.get (pc := 23) (rhR _) dX5_weigh_23 fl_X5_14 h5 rfl ?_
      refine rhF.ck (fun h6 => ?_)
      refine rhF.get (pc := 26) (rhI _) dX5_weigh_26 fl_X5_178 h6 rfl ?_
      refine rhF.if_le (pc := 29) 116 dX5_weigh_29 (by decide) (fun h7 => ?_) (fun h7 => ?_)
      · refine rhF.aload_n (pc := 32) dX5_weigh_32 0 rfl ?_
        refine rhF.iload (pc := 33) dX5_weigh_33 1 rfl ?_
        refine rhF.callV (pc := 35) (ci := 5) (embc := rhe1I _) [rhI _] dX5_weigh_35 ml_X5_181 mv_X5_bestMet ⟨_, rfl, rfl⟩ h5 (c_X5_bestMet _ _ _ _ _) (by decide) (by decide) rfl (Nat.le_of_ble_eq_true rfl) (fun r8 _ => ?_)
        refine rhF.istore (pc := 38) (L' := [(5, rhI _), (0, rhR _), (4, rhI _)]) dX5_weigh_38 (by decide) rfl ?_
        refine rhF.iload (pc := 40) dX5_weigh_40 0 rfl ?_
        refine rhF.iconst (pc := 42) (v := (-1)) dX5_weigh_42 (by decide) ?_
        refine rhF.icmp_eq (pc := 43) 49 dX5_weigh_43 (by decide) (fun h10 => ?_) (fun h10 => ?_)
        · refine rhF.iconst (pc := 49) (v := 0) dX5_weigh_49 (by decide) ?_
          refine rhF.istore (pc := 50) (L' := [(6, rhI _), (5, rhI _), (0, rhR _), (4, rhI _)]) dX5_weigh_50 (by decide) rfl ?_
          refine rhF.sub [2, 3, 0] rfl ?_
          exact (b_X5_weigh_52 (b_X5_weigh_110 ih) rhFU) _ _ _ _
        · refine rhF.iload (pc := 46) dX5_weigh_46 0 rfl ?_
          exact rhF.zret (pc := 48) dX5_weigh_48 rfl rfl rfl
      · refine rhF.iconst (pc := 116) (v := (-1)) dX5_weigh_116 (by decide) ?_
        exact rhF.zret (pc := 117) dX5_weigh_117 rfl rfl rfl
set_option maxHeartbeats 4000000 in
set_option maxRecDepth 100000 in
theorem b_X5_weigh {E : rhE} {Γ : rhG} : ∀ (M : rhM) (v0 : Nat) (v1 : Nat) (v2 : Int64), rhF E 10 8 yX5_weigh cX5_weigh (some .int) Γ (rhe1I Γ) (f_X5_weigh Γ M v0 v1 v2) 0 [(0, rhR v0), (1, rhR v1), (2, rhJ v2)] [] Γ M := by
  intro M v0 v1 v2
  rw [f_X5_weigh]
  refine rhF.aload_n (pc := 0) dX5_weigh_0 0 rfl ?_
  refine rhF.aload_n (pc := 1) dX5_weigh_1 1 rfl ?_
  refine rhF.lload_n (pc := 2) dX5_weigh_2 2 rfl ?_
  refine rhF.ck (fun h1 => ?_)
  refine rhF.callV (pc := 3) (ci := 5) (embc := rhe1I _) [rhR _, rhJ _] dX5_weigh_3 ml_X5_115 mv_X5_begin ⟨_, rfl, rfl⟩ h1 (c_X5_begin _ _ _ _ _ _) (by decide) (by decide) rfl (Nat.le_of_ble_eq_true rfl) (fun r2 _ => ?_)
  refine rhF.iconst (pc := 6) (v := (-1)) dX5_weigh_6 (by decide) ?_
  refine rhF.icmp_ne (pc := 7) 12 dX5_weigh_7 (by decide) (fun h3 => ?_) (fun h3 => ?_)
  · refine rhF.iconst (pc := 10) (v := (-1)) dX5_weigh_10 (by decide) ?_
    exact rhF.zret (pc := 11) dX5_weigh_11 rfl rfl rfl
  · refine rhF.iconst (pc := 12) (v := 0) dX5_weigh_12 (by decide) ?_
    refine rhF.istore (pc := 13) (L' := [(4, rhI _), (0, rhR _), (1, rhR _), (2, rhJ _)]) dX5_weigh_13 (by decide) rfl ?_
    refine rhF.sub [1, 0] rfl ?_
    exact (b_X5_weigh_15 rhFU) _ _ _
theorem c_X5_weigh (E : rhE) (Γ : rhG) (M : rhM) (v0 : Nat) (v1 : Nat) (v2 : Int64) : ∀ a, f_X5_weigh Γ M v0 v1 v2 = some a → rhC E 10 yX5_weigh cX5_weigh 8 (some .int) [rhR v0, rhR v1, rhJ v2] Γ M ((rhe1I Γ) a) := rhF.met (by decide +kernel) (Nat.le_of_ble_eq_true rfl) (b_X5_weigh M v0 v1 v2)
def f_X5_weightTo (Γ : rhG) (M : rhM) (v0 : Nat) (v1 : Int32) : Option (Int32) :=
  rhck (Γ.2.2.1 v0 = 6) <|
  rhck (Γ.2.2.1 (M.2.2 v0 1) = 1) <|
  (f_X0_weightTo Γ M (M.2.2 v0 1) v1).bind fun r3 =>
  some r3
set_option maxHeartbeats 4000000 in
set_option maxRecDepth 100000 in
theorem b_X5_weightTo {E : rhE} {Γ : rhG} {M : rhM} : ∀ (v0 : Nat) (v1 : Int32), rhF E 5 2 yX5_weightTo cX5_weightTo (some .int) Γ (rhe0I Γ M) (f_X5_weightTo Γ M v0 v1) 0 [(0, rhR v0), (1, rhI v1)] [] Γ M := by
  intro v0 v1
  rw [f_X5_weightTo]
  refine rhF.aload_n (pc := 0) dX5_weightTo_0 0 rfl ?_
  refine rhF.ck (fun h1 => ?_)
  refine rhF.get (pc := 1) (rhR _) dX5_weightTo_1 fl_X5_14 h1 rfl ?_
  refine rhF.iload_n (pc := 4) dX5_weightTo_4 1 rfl ?_
  refine rhF.ck (fun h2 => ?_)
  refine rhF.callV (pc := 5) (ci := 0) (embc := rhe0I _ _) [rhI _] dX5_weightTo_5 ml_X5_70 mv_X0_weightTo ⟨_, rfl, rfl⟩ h2 (c_X0_weightTo _ _ _ _ _) (by decide) (by decide) rfl (Nat.le_of_ble_eq_true rfl) (fun r3 _ => ?_)
  exact rhF.zret (pc := 8) dX5_weightTo_8 rfl rfl rfl
theorem c_X5_weightTo (E : rhE) (Γ : rhG) (M : rhM) (v0 : Nat) (v1 : Int32) : ∀ a, f_X5_weightTo Γ M v0 v1 = some a → rhC E 5 yX5_weightTo cX5_weightTo 2 (some .int) [rhR v0, rhI v1] Γ M ((rhe0I Γ M) a) := rhF.met (by decide +kernel) (Nat.le_of_ble_eq_true rfl) (b_X5_weightTo v0 v1)
def f_X5_widen (Γ : rhG) (M : rhM) (v0 : Nat) (v1 : Int32) : Option (rhG × rhM) :=
  rhck (Γ.2.2.1 v0 = 6) <|
  rhck (Γ.2.2.1 (M.2.2 v0 1) = 1) <|
  if (M.1 (M.2.2 v0 1) 0) < v1 then
    (let M5 := rhmn M (nu (Γ.1 + 1))
    let G4 := rhgn Γ 1 0 7
    rhck (G4.2.2.1 ((nu (Γ.1 + 1))) = 1) <|
    (f_X0_init G4 M5 ((nu (Γ.1 + 1))) v1).bind fun r7 =>
    rhck (r7.1.2.2.1 v0 = 6) <|
    let M9 := rhsr r7.2 v0 1 ((nu (Γ.1 + 1)))
    some (r7.1, M9))
  else
    some (Γ, M)
set_option maxHeartbeats 4000000 in
set_option maxRecDepth 100000 in
theorem b_X5_widen {E : rhE} {Γ0 : rhG} : ∀ (Γ : rhG) (M : rhM) (v0 : Nat) (v1 : Int32), rhF E 6 2 yX5_widen cX5_widen none Γ0 rhe2U (f_X5_widen Γ M v0 v1) 0 [(0, rhR v0), (1, rhI v1)] [] Γ M := by
  intro Γ M v0 v1
  rw [f_X5_widen]
  refine rhF.aload_n (pc := 0) dX5_widen_0 0 rfl ?_
  refine rhF.ck (fun h1 => ?_)
  refine rhF.get (pc := 1) (rhR _) dX5_widen_1 fl_X5_14 h1 rfl ?_
  refine rhF.ck (fun h2 => ?_)
  refine rhF.get (pc := 4) (rhI _) dX5_widen_4 fl_X5_45 h2 rfl ?_
  refine rhF.iload_n (pc := 7) dX5_widen_7 1 rfl ?_
  refine rhF.icmp_ge (pc := 8) 23 dX5_widen_8 (by decide) (fun h3 => ?_) (fun h3 => ?_)
  · refine rhF.aload_n (pc := 11) dX5_widen_11 0 rfl ?_
    refine rhF.new (pc := 12) (ci := 0) dX5_widen_12 nw_X5_9 ?_
    refine rhF.dupr (pc := 15) dX5_widen_15 ?_
    refine rhF.iload_n (pc := 16) dX5_widen_16 1 rfl ?_
    refine rhF.ck (fun h6 => ?_)
    refine rhF.callI (pc := 17) (embc := rhe2U) [rhI _] dX5_widen_17 ml_X5_11 mi_X0_init (fun z => absurd (h6.symm.trans z) (by decide)) (c_X0_init _ _ _ _ _) (by decide) (by decide) rfl (Nat.le_of_ble_eq_true rfl) (fun r7 _ => ?_)
    refine rhF.ck (fun h8 => ?_)
    refine rhF.putr (pc := 20) dX5_widen_20 fl_X5_14 h8 (fun q hq => by cases hq; exact Or.inl rfl) (Or.inl ⟨_, rfl⟩) (fun _ => rfl) ?_
    exact rhF.vret (pc := 23) dX5_widen_23 rfl rfl
  · exact rhF.vret (pc := 23) dX5_widen_23 rfl rfl
theorem c_X5_widen (E : rhE) (Γ : rhG) (M : rhM) (v0 : Nat) (v1 : Int32) : ∀ a, f_X5_widen Γ M v0 v1 = some a → rhC E 6 yX5_widen cX5_widen 2 none [rhR v0, rhI v1] Γ M (rhe2U a) := rhF.met (by decide +kernel) (Nat.le_of_ble_eq_true rfl) (b_X5_widen (Γ0 := Γ) Γ M v0 v1)
def f_X6_add (Γ : rhG) (M : rhM) (v0 : Nat) (v1 : Int32) (v2 : Int32) (v3 : Int32) (v4 : Int32) (v5 : Int32) : Option (Int32 × rhM) :=
  rhck (Γ.2.2.1 v0 = 7) <|
  if (M.1 v0 0) < 20 then
    (rhck (Γ.2.2.1 (M.2.2 v0 1) = 15) <|
    rhck (0 ≤ (M.1 v0 0).toInt ∧ (M.1 v0 0).toInt < (Γ.2.2.2 (M.2.2 v0 1) : Nat)) <|
    let M5 := rhsi M (M.2.2 v0 1) (M.1 v0 0 : Int32).toNatClampNeg v1
    rhck (Γ.2.2.1 (M.2.2 v0 2) = 15) <|
    rhck (0 ≤ (M5.1 v0 0).toInt ∧ (M5.1 v0 0).toInt < (Γ.2.2.2 (M.2.2 v0 2) : Nat)) <|
    let M8 := rhsi M5 (M.2.2 v0 2) (M5.1 v0 0 : Int32).toNatClampNeg v2
    rhck (Γ.2.2.1 (M.2.2 v0 3) = 15) <|
    rhck (0 ≤ (M8.1 v0 0).toInt ∧ (M8.1 v0 0).toInt < (Γ.2.2.2 (M.2.2 v0 3) : Nat)) <|
    let M11 := rhsi M8 (M.2.2 v0 3) (M8.1 v0 0 : Int32).toNatClampNeg v3
    rhck (Γ.2.2.1 (M.2.2 v0 4) = 17) <|
    rhck (0 ≤ (M11.1 v0 0).toInt ∧ (M11.1 v0 0).toInt < (Γ.2.2.2 (M.2.2 v0 4) : Nat)) <|
    let M14 := rhsi M11 (M.2.2 v0 4) (M11.1 v0 0 : Int32).toNatClampNeg (vp_nar .boolean v4)
    rhck (Γ.2.2.1 (M.2.2 v0 5) = 15) <|
    rhck (0 ≤ (M14.1 v0 0).toInt ∧ (M14.1 v0 0).toInt < (Γ.2.2.2 (M.2.2 v0 5) : Nat)) <|
    let M17 := rhsi M14 (M.2.2 v0 5) (M14.1 v0 0 : Int32).toNatClampNeg v5
    rhck (Γ.2.2.1 (M.2.2 v0 6) = 15) <|
    rhck (0 ≤ (M17.1 v0 0).toInt ∧ (M17.1 v0 0).toInt < (Γ.2.2.2 (M.2.2 v0 6) : Nat)) <|
    let M20 := rhsi M17 (M.2.2 v0 6) (M17.1 v0 0 : Int32).toNatClampNeg ((-1))
    let M21 := rhsi M20 v0 0 ((M20.1 v0 0) + 1)
    some (((M21.1 v0 0) - 1, M21)))
  else
    some (((-1), M))
set_option maxHeartbeats 4000000 in
set_option maxRecDepth 100000 in
theorem b_X6_add {E : rhE} {Γ : rhG} : ∀ (M : rhM) (v0 : Nat) (v1 : Int32) (v2 : Int32) (v3 : Int32) (v4 : Int32) (v5 : Int32), rhF E 1 6 yX6_add cX6_add (some .int) Γ (rhe1I Γ) (f_X6_add Γ M v0 v1 v2 v3 v4 v5) 0 [(0, rhR v0), (1, rhI v1), (2, rhI v2), (3, rhI v3), (4, rhI v4), (5, rhI v5)] [] Γ M := by
  intro M v0 v1 v2 v3 v4 v5
  rw [f_X6_add]
  refine rhF.aload_n (pc := 0) dX6_add_0 0 rfl ?_
  refine rhF.ck (fun h1 => ?_)
  refine rhF.get (pc := 1) (rhI _) dX6_add_1 fl_X6_56 h1 rfl ?_
  refine rhF.bipush (pc := 4) (v := 20) dX6_add_4 (by decide) ?_
  refine rhF.icmp_lt (pc := 6) 11 dX6_add_6 (by decide) (fun h2 => ?_) (fun h2 => ?_)
  · refine rhF.aload_n (pc := 11) dX6_add_11 0 rfl ?_
    refine rhF.get (pc := 12) (rhR _) dX6_add_12 fl_X6_11 h1 rfl ?_
    refine rhF.aload_n (pc := 15) dX6_add_15 0 rfl ?_
    refine rhF.get (pc := 16) (rhI _) dX6_add_16 fl_X6_56 h1 rfl ?_
    refine rhF.iload_n (pc := 19) dX6_add_19 1 rfl ?_
    refine rhF.ck (fun h3 => ?_)
    refine rhF.ck (fun h4 => ?_)
    refine rhF.iast (pc := 20) dX6_add_20 h3 h4 ?_
    refine rhF.aload_n (pc := 21) dX6_add_21 0 rfl ?_
    refine rhF.get (pc := 22) (rhR _) dX6_add_22 fl_X6_15 h1 rfl ?_
    refine rhF.aload_n (pc := 25) dX6_add_25 0 rfl ?_
    refine rhF.get (pc := 26) (rhI _) dX6_add_26 fl_X6_56 h1 rfl ?_
    refine rhF.iload_n (pc := 29) dX6_add_29 2 rfl ?_
    refine rhF.ck (fun h6 => ?_)
    refine rhF.ck (fun h7 => ?_)
    refine rhF.iast (pc := 30) dX6_add_30 h6 h7 ?_
    refine rhF.aload_n (pc := 31) dX6_add_31 0 rfl ?_
    refine rhF.get (pc := 32) (rhR _) dX6_add_32 fl_X6_18 h1 rfl ?_
    refine rhF.aload_n (pc := 35) dX6_add_35 0 rfl ?_
    refine rhF.get (pc := 36) (rhI _) dX6_add_36 fl_X6_56 h1 rfl ?_
    refine rhF.iload_n (pc := 39) dX6_add_39 3 rfl ?_
    refine rhF.ck (fun h9 => ?_)
    refine rhF.ck (fun h10 => ?_)
    refine rhF.iast (pc := 40) dX6_add_40 h9 h10 ?_
    refine rhF.aload_n (pc := 41) dX6_add_41 0 rfl ?_
    refine rhF.get (pc := 42) (rhR _) dX6_add_42 fl_X6_21 h1 rfl ?_
    refine rhF.aload_n (pc := 45) dX6_add_45 0 rfl ?_
    refine rhF.get (pc := 46) (rhI _) dX6_add_46 fl_X6_56 h1 rfl ?_
    refine rhF.iload (pc := 49) dX6_add_49 4 rfl ?_
    refine rhF.ck (fun h12 => ?_)
    refine rhF.ck (fun h13 => ?_)
    refine rhF.zast (pc := 51) dX6_add_51 h12 h13 ?_
    refine rhF.aload_n (pc := 52) dX6_add_52 0 rfl ?_
    refine rhF.get (pc := 53) (rhR _) dX6_add_53 fl_X6_25 h1 rfl ?_
    refine rhF.aload_n (pc := 56) dX6_add_56 0 rfl ?_
    refine rhF.get (pc := 57) (rhI _) dX6_add_57 fl_X6_56 h1 rfl ?_
    refine rhF.iload (pc := 60) dX6_add_60 5 rfl ?_
    refine rhF.ck (fun h15 => ?_)
    refine rhF.ck (fun h16 => ?_)
    refine rhF.iast (pc := 62) dX6_add_62 h15 h16 ?_
    refine rhF.aload_n (pc := 63) dX6_add_63 0 rfl ?_
    refine rhF.get (pc := 64) (rhR _) dX6_add_64 fl_X6_28 h1 rfl ?_
    refine rhF.aload_n (pc := 67) dX6_add_67 0 rfl ?_
    refine rhF.get (pc := 68) (rhI _) dX6_add_68 fl_X6_56 h1 rfl ?_
    refine rhF.iconst (pc := 71) (v := (-1)) dX6_add_71 (by decide) ?_
    refine rhF.ck (fun h18 => ?_)
    refine rhF.ck (fun h19 => ?_)
    refine rhF.iast (pc := 72) dX6_add_72 h18 h19 ?_
    refine rhF.aload_n (pc := 73) dX6_add_73 0 rfl ?_
    refine rhF.dupr (pc := 74) dX6_add_74 ?_
    refine rhF.get (pc := 75) (rhI _) dX6_add_75 fl_X6_56 h1 rfl ?_
    refine rhF.iconst (pc := 78) (v := 1) dX6_add_78 (by decide) ?_
    refine rhF.iadd (pc := 79) dX6_add_79 ?_
    refine rhF.puti (pc := 80) dX6_add_80 fl_X6_56 h1 (fun q hq => by cases hq; exact Or.inl rfl) ⟨rfl, rfl⟩ (fun _ => rfl) ?_
    refine rhF.aload_n (pc := 83) dX6_add_83 0 rfl ?_
    refine rhF.get (pc := 84) (rhI _) dX6_add_84 fl_X6_56 h1 rfl ?_
    refine rhF.iconst (pc := 87) (v := 1) dX6_add_87 (by decide) ?_
    refine rhF.isub (pc := 88) dX6_add_88 ?_
    exact rhF.zret (pc := 89) dX6_add_89 rfl rfl rfl
  · refine rhF.iconst (pc := 9) (v := (-1)) dX6_add_9 (by decide) ?_
    exact rhF.zret (pc := 10) dX6_add_10 rfl rfl rfl
theorem c_X6_add (E : rhE) (Γ : rhG) (M : rhM) (v0 : Nat) (v1 : Int32) (v2 : Int32) (v3 : Int32) (v4 : Int32) (v5 : Int32) : ∀ a, f_X6_add Γ M v0 v1 v2 v3 v4 v5 = some a → rhC E 1 yX6_add cX6_add 6 (some .int) [rhR v0, rhI v1, rhI v2, rhI v3, rhI v4, rhI v5] Γ M ((rhe1I Γ) a) := rhF.met (by decide +kernel) (Nat.le_of_ble_eq_true rfl) (b_X6_add M v0 v1 v2 v3 v4 v5)
def f_X6_agrees_74 (k2 : Nat → Nat → Int32 → Int32 → Option (Int32)) (Γ : rhG) (M : rhM) (v0 : Nat) (v1 : Nat) (v2 : Int32) (v3 : Int32) : Option (Int32) :=
  let x4 : Int32 := v3 + 1
  k2 v0 v1 v2 x4
def f_X6_agrees_59 (k74 : Nat → Nat → Int32 → Int32 → Option (Int32)) (Γ : rhG) (M : rhM) (v0 : Nat) (v1 : Nat) (v2 : Int32) (v3 : Int32) (s0 : Int32) : Option (Int32) :=
  rhck (Γ.2.2.1 v0 = 7) <|
  rhck (Γ.2.2.1 (M.2.2 v0 4) = 17) <|
  rhck (0 ≤ (v3).toInt ∧ (v3).toInt < (Γ.2.2.2 (M.2.2 v0 4) : Nat)) <|
  if s0 = (M.1 (M.2.2 v0 4) v3.toNatClampNeg) then
    (k74 v0 v1 v2 v3)
  else
    some 0
def f_X6_agrees_2 (Γ : rhG) (M : rhM) : Nat → Nat → Nat → Int32 → Int32 → Option (Int32)
  | 0, _, _, _, _ => none
  | n + 1, v0, v1, v2, v3 =>
    rhck (Γ.2.2.1 v0 = 7) <|
    if v3 < (M.1 v0 0) then
      (if ((rhus (M.1 v0 10) v3) &&& 1) = 0 then
        (f_X6_agrees_74 (f_X6_agrees_2 Γ M n) Γ M v0 v1 v2 v3)
      else
        rhck (Γ.2.2.1 (M.2.2 v0 1) = 15) <|
        rhck (0 ≤ (v3).toInt ∧ (v3).toInt < (Γ.2.2.2 (M.2.2 v0 1) : Nat)) <|
        if (M.1 (M.2.2 v0 1) v3.toNatClampNeg) = v2 then
          (rhck (Γ.2.2.1 v1 = 8) <|
          rhck (Γ.2.2.1 (M.2.2 v0 3) = 15) <|
          rhck (0 ≤ (v3).toInt ∧ (v3).toInt < (Γ.2.2.2 (M.2.2 v0 3) : Nat)) <|
          rhck (Γ.2.2.1 (M.2.2 v1 4) = 15) <|
          rhck (0 ≤ (M.1 (M.2.2 v0 3) v3.toNatClampNeg).toInt ∧ (M.1 (M.2.2 v0 3) v3.toNatClampNeg).toInt < (Γ.2.2.2 (M.2.2 v1 4) : Nat)) <|
          rhck (Γ.2.2.1 (M.2.2 v0 2) = 15) <|
          rhck (0 ≤ (v3).toInt ∧ (v3).toInt < (Γ.2.2.2 (M.2.2 v0 2) : Nat)) <|
          if ((rhus (M.1 (M.2.2 v1 4) (M.1 (M.2.2 v0 3) v3.toNatClampNeg).toNatClampNeg) (M.1 (M.2.2 v0 2) v3.toNatClampNeg)) &&& 1) = 0 then
            (f_X6_agrees_59 (f_X6_agrees_74 (f_X6_agrees_2 Γ M n) Γ M) Γ M v0 v1 v2 v3 0)
          else
            f_X6_agrees_59 (f_X6_agrees_74 (f_X6_agrees_2 Γ M n) Γ M) Γ M v0 v1 v2 v3 1)
        else
          f_X6_agrees_74 (f_X6_agrees_2 Γ M n) Γ M v0 v1 v2 v3)
    else
      some 1
def f_X6_agrees (Γ : rhG) (M : rhM) (v0 : Nat) (v1 : Nat) (v2 : Int32) : Option (Int32) :=
  f_X6_agrees_2 Γ M rhFU v0 v1 v2 0
set_option maxHeartbeats 4000000 in
set_option maxRecDepth 100000 in
theorem b_X6_agrees_74 {E : rhE} {Γ : rhG} {M : rhM} {k2 : Nat → Nat → Int32 → Int32 → Option (Int32)} (hk2 : ∀ (v0 : Nat) (v1 : Nat) (v2 : Int32) (v3 : Int32), rhF E 1 5 yX6_agrees cX6_agrees (some .boolean) Γ (rhe0I Γ M) (k2 v0 v1 v2 v3) 2 [(0, rhR v0), (1, rhR v1), (2, rhI v2), (3, rhI v3)] [] Γ M) : ∀ (v0 : Nat) (v1 : Nat) (v2 : Int32) (v3 : Int32), rhF E 1 5 yX6_agrees cX6_agrees (some .boolean) Γ (rhe0I Γ M) (f_X6_agrees_74 k2 Γ M v0 v1 v2 v3) 74 [(0, rhR v0), (1, rhR v1), (2, rhI v2), (3, rhI v3)] [] Γ M := by
  intro v0 v1 v2 v3
  rw [f_X6_agrees_74]
  refine rhF.iinc (pc := 74) (L' := [(3, rhI _), (0, rhR _), (1, rhR _), (2, rhI _)]) dX6_agrees_74 3 rfl rfl (by decide) rfl ?_
  refine rhF.goto (pc := 77) 2 dX6_agrees_77 (by decide) ?_
  refine rhF.sub [1, 2, 3, 0] rfl ?_
  exact hk2 _ _ _ _
set_option maxHeartbeats 4000000 in
set_option maxRecDepth 100000 in
theorem b_X6_agrees_59 {E : rhE} {Γ : rhG} {M : rhM} {k74 : Nat → Nat → Int32 → Int32 → Option (Int32)} (hk74 : ∀ (v0 : Nat) (v1 : Nat) (v2 : Int32) (v3 : Int32), rhF E 1 5 yX6_agrees cX6_agrees (some .boolean) Γ (rhe0I Γ M) (k74 v0 v1 v2 v3) 74 [(0, rhR v0), (1, rhR v1), (2, rhI v2), (3, rhI v3)] [] Γ M) : ∀ (v0 : Nat) (v1 : Nat) (v2 : Int32) (v3 : Int32) (s0 : Int32), rhF E 1 5 yX6_agrees cX6_agrees (some .boolean) Γ (rhe0I Γ M) (f_X6_agrees_59 k74 Γ M v0 v1 v2 v3 s0) 59 [(0, rhR v0), (1, rhR v1), (2, rhI v2), (3, rhI v3)] [rhI s0] Γ M := by
  intro v0 v1 v2 v3 s0
  rw [f_X6_agrees_59]
  refine rhF.istore (pc := 59) (L' := [(4, rhI _), (0, rhR _), (1, rhR _), (2, rhI _), (3, rhI _)]) dX6_agrees_59 (by decide) rfl ?_
  refine rhF.iload (pc := 61) dX6_agrees_61 0 rfl ?_
  refine rhF.aload_n (pc := 63) dX6_agrees_63 1 rfl ?_
  refine rhF.ck (fun h16 => ?_)
  refine rhF.get (pc := 64) (rhR _) dX6_agrees_64 fl_X6_21 h16 rfl ?_
  refine rhF.iload_n (pc := 67) dX6_agrees_67 4 rfl ?_
  refine rhF.ck (fun h17 => ?_)
  refine rhF.ck (fun h18 => ?_)
  refine rhF.zald (pc := 68) dX6_agrees_68 h17 h18 ?_
  refine rhF.icmp_eq (pc := 69) 74 dX6_agrees_69 (by decide) (fun h19 => ?_) (fun h19 => ?_)
  · refine rhF.sub [1, 2, 3, 4] rfl ?_
    exact hk74 _ _ _ _
  · refine rhF.iconst (pc := 72) (v := 0) dX6_agrees_72 (by decide) ?_
    exact rhF.zret (pc := 73) dX6_agrees_73 rfl rfl rfl
set_option maxHeartbeats 4000000 in
set_option maxRecDepth 100000 in
theorem b_X6_agrees_2 {E : rhE} {Γ : rhG} {M : rhM} : ∀ (n : Nat) (v0 : Nat) (v1 : Nat) (v2 : Int32) (v3 : Int32), rhF E 1 5 yX6_agrees cX6_agrees (some .boolean) Γ (rhe0I Γ M) (f_X6_agrees_2 Γ M n v0 v1 v2 v3) 2 [(0, rhR v0), (1, rhR v1), (2, rhI v2), (3, rhI v3)] [] Γ M := by
  intro n
  induction n with
  | zero => intro v0 v1 v2 v3; rw [f_X6_agrees_2]; exact rhF.nope
  | succ n ih =>
    intro v0 v1 v2 v3
    rw [f_X6_agrees_2]
    refine rhF.iload_n (pc := 2) dX6_agrees_2 3 rfl ?_
    refine rhF.aload_n (pc := 3) dX6_agrees_3 0 rfl ?_
    refine rhF.ck (fun h1 => ?_)
    refine rhF.get (pc := 4) (rhI _) dX6_agrees_4 fl_X6_56 h1 rfl ?_
    refine rhF.icmp_ge (pc := 7) 80 dX6_agrees_7 (by decide) (fun h2 => ?_) (fun h2 => ?_)
    · refine rhF.aload_n (pc := 10) dX6_agrees_10 0 rfl ?_
      refine rhF.get (pc := 11) (rhI _) dX6_agrees_11 fl_X6_77 h1 rfl ?_
      refine rhF.iload_n (pc := 14) dX6_agrees_14 3 rfl ?_
      refine rhF.iushr (pc := 15) dX6_agrees_15 ?_
      refine rhF.iconst (pc := 16) (v := 1) dX6_agrees_16 (by decide) ?_
      refine rhF.iand (pc := 17) dX6_agrees_17 ?_
      refine rhF.if_eq (pc := 18) 74 dX6_agrees_18 (by decide) (fun h3 => ?_) (fun h3 => ?_)
      · exact (b_X6_agrees_74 ih) _ _ _ _
      · refine rhF.aload_n (pc := 21) dX6_agrees_21 0 rfl ?_
        refine rhF.get (pc := 22) (rhR _) dX6_agrees_22 fl_X6_11 h1 rfl ?_
        refine rhF.iload_n (pc := 25) dX6_agrees_25 3 rfl ?_
        refine rhF.ck (fun h5 => ?_)
        refine rhF.ck (fun h6 => ?_)
        refine rhF.iald (pc := 26) dX6_agrees_26 h5 h6 ?_
        refine rhF.iload_n (pc := 27) dX6_agrees_27 2 rfl ?_
        refine rhF.icmp_ne (pc := 28) 74 dX6_agrees_28 (by decide) (fun h7 => ?_) (fun h7 => ?_)
        · refine rhF.aload_n (pc := 31) dX6_agrees_31 1 rfl ?_
          refine rhF.ck (fun h8 => ?_)
          refine rhF.get (pc := 32) (rhR _) dX6_agrees_32 fl_X6_125 h8 rfl ?_
          refine rhF.aload_n (pc := 35) dX6_agrees_35 0 rfl ?_
          refine rhF.get (pc := 36) (rhR _) dX6_agrees_36 fl_X6_18 h1 rfl ?_
          refine rhF.iload_n (pc := 39) dX6_agrees_39 3 rfl ?_
          refine rhF.ck (fun h9 => ?_)
          refine rhF.ck (fun h10 => ?_)
          refine rhF.iald (pc := 40) dX6_agrees_40 h9 h10 ?_
          refine rhF.ck (fun h11 => ?_)
          refine rhF.ck (fun h12 => ?_)
          refine rhF.iald (pc := 41) dX6_agrees_41 h11 h12 ?_
          refine rhF.aload_n (pc := 42) dX6_agrees_42 0 rfl ?_
          refine rhF.get (pc := 43) (rhR _) dX6_agrees_43 fl_X6_15 h1 rfl ?_
          refine rhF.iload_n (pc := 46) dX6_agrees_46 3 rfl ?_
          refine rhF.ck (fun h13 => ?_)
          refine rhF.ck (fun h14 => ?_)
          refine rhF.iald (pc := 47) dX6_agrees_47 h13 h14 ?_
          refine rhF.iushr (pc := 48) dX6_agrees_48 ?_
          refine rhF.iconst (pc := 49) (v := 1) dX6_agrees_49 (by decide) ?_
          refine rhF.iand (pc := 50) dX6_agrees_50 ?_
          refine rhF.if_eq (pc := 51) 58 dX6_agrees_51 (by decide) (fun h15 => ?_) (fun h15 => ?_)
          · refine rhF.iconst (pc := 58) (v := 0) dX6_agrees_58 (by decide) ?_
            exact (b_X6_agrees_59 (b_X6_agrees_74 ih)) _ _ _ _ _
          · refine rhF.iconst (pc := 54) (v := 1) dX6_agrees_54 (by decide) ?_
            refine rhF.goto (pc := 55) 59 dX6_agrees_55 (by decide) ?_
            exact (b_X6_agrees_59 (b_X6_agrees_74 ih)) _ _ _ _ _
        · exact (b_X6_agrees_74 ih) _ _ _ _
    · refine rhF.iconst (pc := 80) (v := 1) dX6_agrees_80 (by decide) ?_
      exact rhF.zret (pc := 81) dX6_agrees_81 rfl rfl rfl
set_option maxHeartbeats 4000000 in
set_option maxRecDepth 100000 in
theorem b_X6_agrees {E : rhE} {Γ : rhG} {M : rhM} : ∀ (v0 : Nat) (v1 : Nat) (v2 : Int32), rhF E 1 5 yX6_agrees cX6_agrees (some .boolean) Γ (rhe0I Γ M) (f_X6_agrees Γ M v0 v1 v2) 0 [(0, rhR v0), (1, rhR v1), (2, rhI v2)] [] Γ M := by
  intro v0 v1 v2
  rw [f_X6_agrees]
  refine rhF.iconst (pc := 0) (v := 0) dX6_agrees_0 (by decide) ?_
  refine rhF.istore_n (pc := 1) (L' := [(3, rhI _), (0, rhR _), (1, rhR _), (2, rhI _)]) dX6_agrees_1 (by decide) rfl ?_
  refine rhF.sub [1, 2, 3, 0] rfl ?_
  exact (b_X6_agrees_2 rhFU) _ _ _ _
theorem c_X6_agrees (E : rhE) (Γ : rhG) (M : rhM) (v0 : Nat) (v1 : Nat) (v2 : Int32) : ∀ a, f_X6_agrees Γ M v0 v1 v2 = some a → rhC E 1 yX6_agrees cX6_agrees 5 (some .boolean) [rhR v0, rhR v1, rhI v2] Γ M ((rhe0I Γ M) a) := rhF.met (by decide +kernel) (Nat.le_of_ble_eq_true rfl) (b_X6_agrees v0 v1 v2)
def f_X6_clear (Γ : rhG) (M : rhM) (v0 : Nat) : Option (rhM) :=
  rhck (Γ.2.2.1 v0 = 7) <|
  let M2 := rhsi M v0 0 0
  (f_J7_fill_53178 Γ M2 (M.2.2 v0 12) ((-1) : Int32)).bind fun r3 =>
  some r3
set_option maxHeartbeats 4000000 in
set_option maxRecDepth 100000 in
theorem b_X6_clear {E : rhE} {Γ : rhG} : ∀ (M : rhM) (v0 : Nat), rhF E 5 1 yX6_clear cX6_clear none Γ (rhe1U Γ) (f_X6_clear Γ M v0) 0 [(0, rhR v0)] [] Γ M := by
  intro M v0
  rw [f_X6_clear]
  refine rhF.aload_n (pc := 0) dX6_clear_0 0 rfl ?_
  refine rhF.iconst (pc := 1) (v := 0) dX6_clear_1 (by decide) ?_
  refine rhF.ck (fun h1 => ?_)
  refine rhF.puti (pc := 2) dX6_clear_2 fl_X6_56 h1 (fun q hq => by cases hq; exact Or.inl rfl) ⟨rfl, rfl⟩ (fun _ => rfl) ?_
  refine rhF.aload_n (pc := 5) dX6_clear_5 0 rfl ?_
  refine rhF.get (pc := 6) (rhR _) dX6_clear_6 fl_X6_46 h1 rfl ?_
  refine rhF.iconst (pc := 9) (v := (-1)) dX6_clear_9 (by decide) ?_
  refine rhF.callS (pc := 10) (embc := rhe1U _) [rhR _, rhI _] dX6_clear_10 ml_X6_60 ms_J7_fill_53178 (c_J7_fill_53178 _ _ _ _ _) (by decide) (by decide) rfl (Nat.le_of_ble_eq_true rfl) (fun r3 _ => ?_)
  exact rhF.vret (pc := 13) dX6_clear_13 rfl rfl
theorem c_X6_clear (E : rhE) (Γ : rhG) (M : rhM) (v0 : Nat) : ∀ a, f_X6_clear Γ M v0 = some a → rhC E 5 yX6_clear cX6_clear 1 none [rhR v0] Γ M ((rhe1U Γ) a) := rhF.met (by decide +kernel) (Nat.le_of_ble_eq_true rfl) (b_X6_clear M v0)
def f_X6_countRow_15 (Γ : rhG) : Nat → rhM → Nat → Nat → Int32 → Option (rhM)
  | 0, _, _, _, _ => none
  | n + 1, M, v0, v1, v2 =>
    rhck (Γ.2.2.1 v0 = 7) <|
    rhck (Γ.2.2.1 (M.2.2 v0 9) = 10) <|
    if v2 < (M.1 (M.2.2 v0 9) 0) then
      (rhck (Γ.2.2.1 (M.2.2 v0 14) = 15) <|
      rhck (0 ≤ (((M.1 v0 11) * 5) + v2).toInt ∧ (((M.1 v0 11) * 5) + v2).toInt < (Γ.2.2.2 (M.2.2 v0 14) : Nat)) <|
      rhck (Γ.2.2.1 v1 = 8) <|
      rhck (Γ.2.2.1 (M.2.2 v1 4) = 15) <|
      rhck (0 ≤ (v2).toInt ∧ (v2).toInt < (Γ.2.2.2 (M.2.2 v1 4) : Nat)) <|
      let M13 := rhsi M (M.2.2 v0 14) (((M.1 v0 11) * 5) + v2 : Int32).toNatClampNeg ((M.1 (M.2.2 v0 14) (((M.1 v0 11) * 5) + v2).toNatClampNeg) ||| (M.1 (M.2.2 v1 4) v2.toNatClampNeg))
      let x14 : Int32 := v2 + 1
      f_X6_countRow_15 Γ n M13 v0 v1 x14)
    else
      some M
def f_X6_countRow (Γ : rhG) (M : rhM) (v0 : Nat) (v1 : Nat) : Option (rhM) :=
  rhck (Γ.2.2.1 v0 = 7) <|
  rhck (Γ.2.2.1 (M.2.2 v0 13) = 15) <|
  rhck (0 ≤ (M.1 v0 11).toInt ∧ (M.1 v0 11).toInt < (Γ.2.2.2 (M.2.2 v0 13) : Nat)) <|
  let M4 := rhsi M (M.2.2 v0 13) (M.1 v0 11 : Int32).toNatClampNeg ((M.1 (M.2.2 v0 13) (M.1 v0 11).toNatClampNeg) + 1)
  f_X6_countRow_15 Γ rhFU M4 v0 v1 0
set_option maxHeartbeats 4000000 in
set_option maxRecDepth 100000 in
theorem b_X6_countRow_15 {E : rhE} {Γ : rhG} : ∀ (n : Nat) (M : rhM) (v0 : Nat) (v1 : Nat) (v2 : Int32), rhF E 1 3 yX6_countRow cX6_countRow none Γ (rhe1U Γ) (f_X6_countRow_15 Γ n M v0 v1 v2) 15 [(0, rhR v0), (1, rhR v1), (2, rhI v2)] [] Γ M := by
  intro n
  induction n with
  | zero => intro M v0 v1 v2; rw [f_X6_countRow_15]; exact rhF.nope
  | succ n ih =>
    intro M v0 v1 v2
    rw [f_X6_countRow_15]
    refine rhF.iload_n (pc := 15) dX6_countRow_15 2 rfl ?_
    refine rhF.aload_n (pc := 16) dX6_countRow_16 0 rfl ?_
    refine rhF.ck (fun h5 => ?_)
    refine rhF.get (pc := 17) (rhR _) dX6_countRow_17 fl_X6_73 h5 rfl ?_
    refine rhF.ck (fun h6 => ?_)
    refine rhF.get (pc := 20) (rhI _) dX6_countRow_20 fl_X6_122 h6 rfl ?_
    refine rhF.icmp_ge (pc := 23) 54 dX6_countRow_23 (by decide) (fun h7 => ?_) (fun h7 => ?_)
    · refine rhF.aload_n (pc := 26) dX6_countRow_26 0 rfl ?_
      refine rhF.get (pc := 27) (rhR _) dX6_countRow_27 fl_X6_52 h5 rfl ?_
      refine rhF.aload_n (pc := 30) dX6_countRow_30 0 rfl ?_
      refine rhF.get (pc := 31) (rhI _) dX6_countRow_31 fl_X6_80 h5 rfl ?_
      refine rhF.iconst (pc := 34) (v := 5) dX6_countRow_34 (by decide) ?_
      refine rhF.imul (pc := 35) dX6_countRow_35 ?_
      refine rhF.iload_n (pc := 36) dX6_countRow_36 2 rfl ?_
      refine rhF.iadd (pc := 37) dX6_countRow_37 ?_
      refine rhF.dup2ri (pc := 38) dX6_countRow_38 ?_
      refine rhF.ck (fun h8 => ?_)
      refine rhF.ck (fun h9 => ?_)
      refine rhF.iald (pc := 39) dX6_countRow_39 h8 h9 ?_
      refine rhF.aload_n (pc := 40) dX6_countRow_40 1 rfl ?_
      refine rhF.ck (fun h10 => ?_)
      refine rhF.get (pc := 41) (rhR _) dX6_countRow_41 fl_X6_125 h10 rfl ?_
      refine rhF.iload_n (pc := 44) dX6_countRow_44 2 rfl ?_
      refine rhF.ck (fun h11 => ?_)
      refine rhF.ck (fun h12 => ?_)
      refine rhF.iald (pc := 45) dX6_countRow_45 h11 h12 ?_
      refine rhF.ior (pc := 46) dX6_countRow_46 ?_
      refine rhF.iast (pc := 47) dX6_countRow_47 h8 h9 ?_
      refine rhF.iinc (pc := 48) (L' := [(2, rhI _), (0, rhR _), (1, rhR _)]) dX6_countRow_48 2 rfl rfl (by decide) rfl ?_
      refine rhF.goto (pc := 51) 15 dX6_countRow_51 (by decide) ?_
      refine rhF.sub [1, 2, 0] rfl ?_
      exact ih _ _ _ _
    · exact rhF.vret (pc := 54) dX6_countRow_54 rfl rfl
set_option maxHeartbeats 4000000 in
set_option maxRecDepth 100000 in
theorem b_X6_countRow {E : rhE} {Γ : rhG} : ∀ (M : rhM) (v0 : Nat) (v1 : Nat), rhF E 1 3 yX6_countRow cX6_countRow none Γ (rhe1U Γ) (f_X6_countRow Γ M v0 v1) 0 [(0, rhR v0), (1, rhR v1)] [] Γ M := by
  intro M v0 v1
  rw [f_X6_countRow]
  refine rhF.aload_n (pc := 0) dX6_countRow_0 0 rfl ?_
  refine rhF.ck (fun h1 => ?_)
  refine rhF.get (pc := 1) (rhR _) dX6_countRow_1 fl_X6_49 h1 rfl ?_
  refine rhF.aload_n (pc := 4) dX6_countRow_4 0 rfl ?_
  refine rhF.get (pc := 5) (rhI _) dX6_countRow_5 fl_X6_80 h1 rfl ?_
  refine rhF.dup2ri (pc := 8) dX6_countRow_8 ?_
  refine rhF.ck (fun h2 => ?_)
  refine rhF.ck (fun h3 => ?_)
  refine rhF.iald (pc := 9) dX6_countRow_9 h2 h3 ?_
  refine rhF.iconst (pc := 10) (v := 1) dX6_countRow_10 (by decide) ?_
  refine rhF.iadd (pc := 11) dX6_countRow_11 ?_
  refine rhF.iast (pc := 12) dX6_countRow_12 h2 h3 ?_
  refine rhF.iconst (pc := 13) (v := 0) dX6_countRow_13 (by decide) ?_
  refine rhF.istore_n (pc := 14) (L' := [(2, rhI _), (0, rhR _), (1, rhR _)]) dX6_countRow_14 (by decide) rfl ?_
  refine rhF.sub [1, 2, 0] rfl ?_
  exact (b_X6_countRow_15 rhFU) _ _ _ _
theorem c_X6_countRow (E : rhE) (Γ : rhG) (M : rhM) (v0 : Nat) (v1 : Nat) : ∀ a, f_X6_countRow Γ M v0 v1 = some a → rhC E 1 yX6_countRow cX6_countRow 3 none [rhR v0, rhR v1] Γ M ((rhe1U Γ) a) := rhF.met (by decide +kernel) (Nat.le_of_ble_eq_true rfl) (b_X6_countRow M v0 v1)
def f_X6_goOn (g_X6_goOn : rhG → rhM → Nat → Int32 → Option (rhM)) (g_X6_pullOn : rhG → rhM → Nat → Int32 → Option (rhM)) (Γ : rhG) (M : rhM) (v0 : Nat) (v1 : Int32) : Option (rhM) :=
  rhck (Γ.2.2.1 v0 = 7) <|
  rhck (Γ.2.2.1 (M.2.2 v0 7) = 19) <|
  rhck (0 ≤ (v1).toInt ∧ (v1).toInt < (Γ.2.2.2 (M.2.2 v0 7) : Nat)) <|
  (f_X6_agrees Γ M v0 (M.2.2 (M.2.2 v0 7) v1.toNatClampNeg) v1).bind fun r4 =>
  if r4 = 0 then
    (some M)
  else
    if v1 < (M.1 v0 11) then
      ((g_X6_pullOn Γ M v0 v1).bind fun r7 =>
      some r7)
    else
      (f_X6_countRow Γ M v0 (M.2.2 (M.2.2 v0 7) v1.toNatClampNeg)).bind fun r8 =>
      some r8
def f_X6_pullOn_17 (g_X6_goOn : rhG → rhM → Nat → Int32 → Option (rhM)) (g_X6_pullOn : rhG → rhM → Nat → Int32 → Option (rhM)) (Γ : rhG) : Nat → rhM → Nat → Int32 → Nat → Int32 → Option (rhM)
  | 0, _, _, _, _, _ => none
  | n + 1, M, v0, v1, v2, v3 =>
    rhck (Γ.2.2.1 v2 = 8) <|
    if v3 < (M.1 v2 6) then
      (rhck (Γ.2.2.1 v0 = 7) <|
      rhck (Γ.2.2.1 (M.2.2 v0 7) = 19) <|
      rhck (0 ≤ (v1 + 1).toInt ∧ (v1 + 1).toInt < (Γ.2.2.2 (M.2.2 v0 7) : Nat)) <|
      (f_X7_nextWord Γ M v2 v3).bind fun r12 =>
      rhck (Γ.2.2.1 (M.2.2 (M.2.2 v0 7) (v1 + 1).toNatClampNeg) = 8) <|
      (f_X7_look Γ M (M.2.2 (M.2.2 v0 7) (v1 + 1).toNatClampNeg) (M.2.2 v0 9) r12).bind fun r14 =>
      (g_X6_goOn Γ r14 v0 (v1 + 1)).bind fun r15 =>
      let x16 : Int32 := v3 + 1
      f_X6_pullOn_17 g_X6_goOn g_X6_pullOn Γ n r15 v0 v1 v2 x16)
    else
      some M
def f_X6_pullOn (g_X6_goOn : rhG → rhM → Nat → Int32 → Option (rhM)) (g_X6_pullOn : rhG → rhM → Nat → Int32 → Option (rhM)) (Γ : rhG) (M : rhM) (v0 : Nat) (v1 : Int32) : Option (rhM) :=
  rhck (Γ.2.2.1 v0 = 7) <|
  rhck (Γ.2.2.1 (M.2.2 v0 7) = 19) <|
  rhck (0 ≤ (v1).toInt ∧ (v1).toInt < (Γ.2.2.2 (M.2.2 v0 7) : Nat)) <|
  let x4 := M.2.2 (M.2.2 v0 7) v1.toNatClampNeg
  rhck (Γ.2.2.1 x4 = 8) <|
  (f_X7_listPulls Γ M x4 (M.2.2 v0 8)).bind fun r6 =>
  f_X6_pullOn_17 g_X6_goOn g_X6_pullOn Γ rhFU r6 v0 v1 x4 0
def F_X6_goOn : Nat → (rhG → rhM → Nat → Int32 → Option (rhM)) × (rhG → rhM → Nat → Int32 → Option (rhM))
  | 0 => (fun _ _ _ _ => none, fun _ _ _ _ => none)
  | n + 1 => (fun Γ M v0 v1 => f_X6_goOn ((F_X6_goOn n).1) ((F_X6_goOn n).2) Γ M v0 v1, fun Γ M v0 v1 => f_X6_pullOn ((F_X6_goOn n).1) ((F_X6_goOn n).2) Γ M v0 v1)
set_option maxHeartbeats 4000000 in
set_option maxRecDepth 100000 in
theorem b_X6_goOn {E : rhE} {dp : Nat} {g_X6_goOn : rhG → rhM → Nat → Int32 → Option (rhM)} {g_X6_pullOn : rhG → rhM → Nat → Int32 → Option (rhM)} {Γ : rhG} (hg_X6_goOn : ∀ (Γ : rhG) (M : rhM) (v0 : Nat) (v1 : Int32) (a : rhM), g_X6_goOn Γ M v0 v1 = some a → rhC E (9 + dp) yX6_goOn cX6_goOn 2 none [rhR v0, rhI v1] Γ M ((rhe1U Γ) a)) (hg_X6_pullOn : ∀ (Γ : rhG) (M : rhM) (v0 : Nat) (v1 : Int32) (a : rhM), g_X6_pullOn Γ M v0 v1 = some a → rhC E (9 + dp) yX6_pullOn cX6_pullOn 4 none [rhR v0, rhI v1] Γ M ((rhe1U Γ) a)) : ∀ (M : rhM) (v0 : Nat) (v1 : Int32), rhF E (9 + (dp + 1)) 2 yX6_goOn cX6_goOn none Γ (rhe1U Γ) (f_X6_goOn g_X6_goOn g_X6_pullOn Γ M v0 v1) 0 [(0, rhR v0), (1, rhI v1)] [] Γ M := by
  intro M v0 v1
  rw [f_X6_goOn]
  refine rhF.aload_n (pc := 0) dX6_goOn_0 0 rfl ?_
  refine rhF.aload_n (pc := 1) dX6_goOn_1 0 rfl ?_
  refine rhF.ck (fun h1 => ?_)
  refine rhF.get (pc := 2) (rhR _) dX6_goOn_2 fl_X6_33 h1 rfl ?_
  refine rhF.iload_n (pc := 5) dX6_goOn_5 1 rfl ?_
  refine rhF.ck (fun h2 => ?_)
  refine rhF.ck (fun h3 => ?_)
  refine rhF.aldS (pc := 6) dX6_goOn_6 h2 h3 ?_
  refine rhF.iload_n (pc := 7) dX6_goOn_7 1 rfl ?_
  refine rhF.callV (pc := 8) (ci := 6) (embc := rhe0I _ _) [rhR _, rhI _] dX6_goOn_8 ml_X6_100 mv_X6_agrees ⟨_, rfl, rfl⟩ h1 (c_X6_agrees _ _ _ _ _ _) (by omega) (by decide) rfl (Nat.le_of_ble_eq_true rfl) (fun r4 _ => ?_)
  refine rhF.if_ne (pc := 11) 15 dX6_goOn_11 (by decide) (fun h5 => ?_) (fun h5 => ?_)
  · exact rhF.vret (pc := 14) dX6_goOn_14 rfl rfl
  · refine rhF.iload_n (pc := 15) dX6_goOn_15 1 rfl ?_
    refine rhF.aload_n (pc := 16) dX6_goOn_16 0 rfl ?_
    refine rhF.get (pc := 17) (rhI _) dX6_goOn_17 fl_X6_80 h1 rfl ?_
    refine rhF.icmp_ge (pc := 20) 31 dX6_goOn_20 (by decide) (fun h6 => ?_) (fun h6 => ?_)
    · refine rhF.aload_n (pc := 23) dX6_goOn_23 0 rfl ?_
      refine rhF.iload_n (pc := 24) dX6_goOn_24 1 rfl ?_
      refine rhF.callV (pc := 25) (ci := 6) (embc := rhe1U _) [rhI _] dX6_goOn_25 ml_X6_104 mv_X6_pullOn ⟨_, rfl, rfl⟩ h1 (hg_X6_pullOn _ _ _ _) (by omega) (by decide) rfl (Nat.le_of_ble_eq_true rfl) (fun r7 _ => ?_)
      refine rhF.goto (pc := 28) 41 dX6_goOn_28 (by decide) ?_
      exact rhF.vret (pc := 41) dX6_goOn_41 rfl rfl
    · refine rhF.aload_n (pc := 31) dX6_goOn_31 0 rfl ?_
      refine rhF.aload_n (pc := 32) dX6_goOn_32 0 rfl ?_
      refine rhF.get (pc := 33) (rhR _) dX6_goOn_33 fl_X6_33 h1 rfl ?_
      refine rhF.iload_n (pc := 36) dX6_goOn_36 1 rfl ?_
      refine rhF.aldS (pc := 37) dX6_goOn_37 h2 h3 ?_
      refine rhF.callV (pc := 38) (ci := 6) (embc := rhe1U _) [rhR _] dX6_goOn_38 ml_X6_107 mv_X6_countRow ⟨_, rfl, rfl⟩ h1 (c_X6_countRow _ _ _ _ _) (by omega) (by decide) rfl (Nat.le_of_ble_eq_true rfl) (fun r8 _ => ?_)
      exact rhF.vret (pc := 41) dX6_goOn_41 rfl rfl
set_option maxHeartbeats 4000000 in
set_option maxRecDepth 100000 in
theorem b_X6_pullOn_17 {E : rhE} {dp : Nat} {g_X6_goOn : rhG → rhM → Nat → Int32 → Option (rhM)} {g_X6_pullOn : rhG → rhM → Nat → Int32 → Option (rhM)} {Γ : rhG} (hg_X6_goOn : ∀ (Γ : rhG) (M : rhM) (v0 : Nat) (v1 : Int32) (a : rhM), g_X6_goOn Γ M v0 v1 = some a → rhC E (9 + dp) yX6_goOn cX6_goOn 2 none [rhR v0, rhI v1] Γ M ((rhe1U Γ) a)) (hg_X6_pullOn : ∀ (Γ : rhG) (M : rhM) (v0 : Nat) (v1 : Int32) (a : rhM), g_X6_pullOn Γ M v0 v1 = some a → rhC E (9 + dp) yX6_pullOn cX6_pullOn 4 none [rhR v0, rhI v1] Γ M ((rhe1U Γ) a)) : ∀ (n : Nat) (M : rhM) (v0 : Nat) (v1 : Int32) (v2 : Nat) (v3 : Int32), rhF E (9 + (dp + 1)) 4 yX6_pullOn cX6_pullOn none Γ (rhe1U Γ) (f_X6_pullOn_17 g_X6_goOn g_X6_pullOn Γ n M v0 v1 v2 v3) 17 [(0, rhR v0), (1, rhI v1), (2, rhR v2), (3, rhI v3)] [] Γ M := by
  intro n
  induction n with
  | zero => intro M v0 v1 v2 v3; rw [f_X6_pullOn_17]; exact rhF.nope
  | succ n ih =>
    intro M v0 v1 v2 v3
    rw [f_X6_pullOn_17]
    refine rhF.iload_n (pc := 17) dX6_pullOn_17 3 rfl ?_
    refine rhF.aload_n (pc := 18) dX6_pullOn_18 2 rfl ?_
    refine rhF.ck (fun h7 => ?_)
    refine rhF.get (pc := 19) (rhI _) dX6_pullOn_19 fl_X6_115 h7 rfl ?_
    refine rhF.icmp_ge (pc := 22) 58 dX6_pullOn_22 (by decide) (fun h8 => ?_) (fun h8 => ?_)
    · refine rhF.aload_n (pc := 25) dX6_pullOn_25 0 rfl ?_
      refine rhF.ck (fun h9 => ?_)
      refine rhF.get (pc := 26) (rhR _) dX6_pullOn_26 fl_X6_33 h9 rfl ?_
      refine rhF.iload_n (pc := 29) dX6_pullOn_29 1 rfl ?_
      refine rhF.iconst (pc := 30) (v := 1) dX6_pullOn_30 (by decide) ?_
      refine rhF.iadd (pc := 31) dX6_pullOn_31 ?_
      refine rhF.ck (fun h10 => ?_)
      refine rhF.ck (fun h11 => ?_)
      refine rhF.aldS (pc := 32) dX6_pullOn_32 h10 h11 ?_
      refine rhF.aload_n (pc := 33) dX6_pullOn_33 0 rfl ?_
      refine rhF.get (pc := 34) (rhR _) dX6_pullOn_34 fl_X6_73 h9 rfl ?_
      refine rhF.aload_n (pc := 37) dX6_pullOn_37 2 rfl ?_
      refine rhF.iload_n (pc := 38) dX6_pullOn_38 3 rfl ?_
      refine rhF.callV (pc := 39) (ci := 7) (embc := rhe0J _ _) [rhI _] dX6_pullOn_39 ml_X6_118 mv_X7_nextWord ⟨_, rfl, rfl⟩ h7 (c_X7_nextWord _ _ _ _ _) (by omega) (by decide) rfl (Nat.le_of_ble_eq_true rfl) (fun r12 _ => ?_)
      refine rhF.ck (fun h13 => ?_)
      refine rhF.callV (pc := 42) (ci := 7) (embc := rhe1U _) [rhR _, rhJ _] dX6_pullOn_42 ml_X6_93 mv_X7_look ⟨_, rfl, rfl⟩ h13 (c_X7_look _ _ _ _ _ _) (by omega) (by decide) rfl (Nat.le_of_ble_eq_true rfl) (fun r14 _ => ?_)
      refine rhF.aload_n (pc := 45) dX6_pullOn_45 0 rfl ?_
      refine rhF.iload_n (pc := 46) dX6_pullOn_46 1 rfl ?_
      refine rhF.iconst (pc := 47) (v := 1) dX6_pullOn_47 (by decide) ?_
      refine rhF.iadd (pc := 48) dX6_pullOn_48 ?_
      refine rhF.callV (pc := 49) (ci := 6) (embc := rhe1U _) [rhI _] dX6_pullOn_49 ml_X6_97 mv_X6_goOn ⟨_, rfl, rfl⟩ h9 (hg_X6_goOn _ _ _ _) (by omega) (by decide) rfl (Nat.le_of_ble_eq_true rfl) (fun r15 _ => ?_)
      refine rhF.iinc (pc := 52) (L' := [(3, rhI _), (0, rhR _), (1, rhI _), (2, rhR _)]) dX6_pullOn_52 3 rfl rfl (by decide) rfl ?_
      refine rhF.goto (pc := 55) 17 dX6_pullOn_55 (by decide) ?_
      refine rhF.sub [1, 2, 3, 0] rfl ?_
      exact ih _ _ _ _ _
    · exact rhF.vret (pc := 58) dX6_pullOn_58 rfl rfl
set_option maxHeartbeats 4000000 in
set_option maxRecDepth 100000 in
theorem b_X6_pullOn {E : rhE} {dp : Nat} {g_X6_goOn : rhG → rhM → Nat → Int32 → Option (rhM)} {g_X6_pullOn : rhG → rhM → Nat → Int32 → Option (rhM)} {Γ : rhG} (hg_X6_goOn : ∀ (Γ : rhG) (M : rhM) (v0 : Nat) (v1 : Int32) (a : rhM), g_X6_goOn Γ M v0 v1 = some a → rhC E (9 + dp) yX6_goOn cX6_goOn 2 none [rhR v0, rhI v1] Γ M ((rhe1U Γ) a)) (hg_X6_pullOn : ∀ (Γ : rhG) (M : rhM) (v0 : Nat) (v1 : Int32) (a : rhM), g_X6_pullOn Γ M v0 v1 = some a → rhC E (9 + dp) yX6_pullOn cX6_pullOn 4 none [rhR v0, rhI v1] Γ M ((rhe1U Γ) a)) : ∀ (M : rhM) (v0 : Nat) (v1 : Int32), rhF E (9 + (dp + 1)) 4 yX6_pullOn cX6_pullOn none Γ (rhe1U Γ) (f_X6_pullOn g_X6_goOn g_X6_pullOn Γ M v0 v1) 0 [(0, rhR v0), (1, rhI v1)] [] Γ M := by
  intro M v0 v1
  rw [f_X6_pullOn]
  refine rhF.aload_n (pc := 0) dX6_pullOn_0 0 rfl ?_
  refine rhF.ck (fun h1 => ?_)
  refine rhF.get (pc := 1) (rhR _) dX6_pullOn_1 fl_X6_33 h1 rfl ?_
  refine rhF.iload_n (pc := 4) dX6_pullOn_4 1 rfl ?_
  refine rhF.ck (fun h2 => ?_)
  refine rhF.ck (fun h3 => ?_)
  refine rhF.aldS (pc := 5) dX6_pullOn_5 h2 h3 ?_
  refine rhF.astore_n (pc := 6) (L' := [(2, rhR _), (0, rhR _), (1, rhI _)]) dX6_pullOn_6 (by decide) rfl ?_
  refine rhF.aload_n (pc := 7) dX6_pullOn_7 0 rfl ?_
  refine rhF.aload_n (pc := 8) dX6_pullOn_8 1 rfl ?_
  refine rhF.get (pc := 9) (rhR _) dX6_pullOn_9 fl_X6_42 h1 rfl ?_
  refine rhF.ck (fun h5 => ?_)
  refine rhF.callV (pc := 12) (ci := 7) (embc := rhe1U _) [rhR _] dX6_pullOn_12 ml_X6_111 mv_X7_listPulls ⟨_, rfl, rfl⟩ h5 (c_X7_listPulls _ _ _ _ _) (by omega) (by decide) rfl (Nat.le_of_ble_eq_true rfl) (fun r6 _ => ?_)
  refine rhF.iconst (pc := 15) (v := 0) dX6_pullOn_15 (by decide) ?_
  refine rhF.istore_n (pc := 16) (L' := [(3, rhI _), (2, rhR _), (0, rhR _), (1, rhI _)]) dX6_pullOn_16 (by decide) rfl ?_
  refine rhF.sub [2, 3, 1, 0] rfl ?_
  exact (b_X6_pullOn_17 hg_X6_goOn hg_X6_pullOn rhFU) _ _ _ _ _
theorem C_X6_goOn (E : rhE) : ∀ dp : Nat, (∀ (Γ : rhG) (M : rhM) (v0 : Nat) (v1 : Int32) (a : rhM), ((F_X6_goOn dp).1) Γ M v0 v1 = some a → rhC E (9 + dp) yX6_goOn cX6_goOn 2 none [rhR v0, rhI v1] Γ M ((rhe1U Γ) a)) ∧ (∀ (Γ : rhG) (M : rhM) (v0 : Nat) (v1 : Int32) (a : rhM), ((F_X6_goOn dp).2) Γ M v0 v1 = some a → rhC E (9 + dp) yX6_pullOn cX6_pullOn 4 none [rhR v0, rhI v1] Γ M ((rhe1U Γ) a)) := by
  intro dp
  induction dp with
  | zero =>
    refine ⟨?_, ?_⟩
    · exact (fun Γ M v0 v1 a h => by
      have h2 : (none : Option (rhM)) = some a := h
      cases h2)
    · exact (fun Γ M v0 v1 a h => by
      have h2 : (none : Option (rhM)) = some a := h
      cases h2)
  | succ dp ih =>
    exact ⟨fun Γ M v0 v1 => rhF.met (by decide +kernel) (Nat.le_of_ble_eq_true rfl) (b_X6_goOn (dp := dp) (ih.1) (ih.2) M v0 v1), fun Γ M v0 v1 => rhF.met (by decide +kernel) (Nat.le_of_ble_eq_true rfl) (b_X6_pullOn (dp := dp) (ih.1) (ih.2) M v0 v1)⟩
def h_X6_goOn (dp : Nat) := (F_X6_goOn dp).1
theorem c_X6_goOn (E : rhE) (dp : Nat) (Γ : rhG) (M : rhM) (v0 : Nat) (v1 : Int32) : ∀ a, h_X6_goOn dp Γ M v0 v1 = some a → rhC E (9 + dp) yX6_goOn cX6_goOn 2 none [rhR v0, rhI v1] Γ M ((rhe1U Γ) a) := (C_X6_goOn E dp).1 Γ M v0 v1
def h_X6_pullOn (dp : Nat) := (F_X6_goOn dp).2
theorem c_X6_pullOn (E : rhE) (dp : Nat) (Γ : rhG) (M : rhM) (v0 : Nat) (v1 : Int32) : ∀ a, h_X6_pullOn dp Γ M v0 v1 = some a → rhC E (9 + dp) yX6_pullOn cX6_pullOn 4 none [rhR v0, rhI v1] Γ M ((rhe1U Γ) a) := (C_X6_goOn E dp).2 Γ M v0 v1
def f_X6_setKnownAt_40 (k41 : Nat → Int32 → Int32 → Int32 → Int32 → Int32 → Option (Int32)) (Γ : rhG) (M : rhM) (v0 : Nat) (v1 : Int32) (v2 : Int32) (v3 : Int32) (v4 : Int32) : Option (Int32) :=
  k41 v0 v1 v2 v3 v4 0
def f_X6_setKnownAt_77 (k5 : Nat → Int32 → Int32 → Int32 → Int32 → Option (Int32)) (Γ : rhG) (M : rhM) (v0 : Nat) (v1 : Int32) (v2 : Int32) (v3 : Int32) (v4 : Int32) : Option (Int32) :=
  let x10 : Int32 := v4 + 1
  k5 v0 v1 v2 v3 x10
def f_X6_setKnownAt_41 (k5 : Nat → Int32 → Int32 → Int32 → Int32 → Option (Int32)) (Γ : rhG) (M : rhM) (v0 : Nat) (v1 : Int32) (v2 : Int32) (v3 : Int32) (v4 : Int32) (s0 : Int32) : Option (Int32) :=
  rhck (Γ.2.2.1 v0 = 7) <|
  rhck (Γ.2.2.1 (M.2.2 v0 1) = 15) <|
  rhck (0 ≤ (v4).toInt ∧ (v4).toInt < (Γ.2.2.2 (M.2.2 v0 1) : Nat)) <|
  if v1 < (M.1 (M.2.2 v0 1) v4.toNatClampNeg) then
    (f_X6_setKnownAt_77 k5 Γ M v0 v1 v2 v3 v4)
  else
    rhck (Γ.2.2.1 (M.2.2 v0 5) = 15) <|
    rhck (0 ≤ (v4).toInt ∧ (v4).toInt < (Γ.2.2.2 (M.2.2 v0 5) : Nat)) <|
    if v2 < (M.1 (M.2.2 v0 5) v4.toNatClampNeg) then
      (f_X6_setKnownAt_77 k5 Γ M v0 v1 v2 v3 v4)
    else
      if s0 = 0 then
        (let x15 := v3 ||| (1 <<< (v4 &&& 31))
        f_X6_setKnownAt_77 k5 Γ M v0 v1 v2 x15 v4)
      else
        f_X6_setKnownAt_77 k5 Γ M v0 v1 v2 v3 v4
def f_X6_setKnownAt_5 (Γ : rhG) (M : rhM) : Nat → Nat → Int32 → Int32 → Int32 → Int32 → Option (Int32)
  | 0, _, _, _, _, _ => none
  | n + 1, v0, v1, v2, v3, v4 =>
    rhck (Γ.2.2.1 v0 = 7) <|
    if v4 < (M.1 v0 0) then
      (rhck (Γ.2.2.1 (M.2.2 v0 6) = 15) <|
      rhck (0 ≤ (v4).toInt ∧ (v4).toInt < (Γ.2.2.2 (M.2.2 v0 6) : Nat)) <|
      if (M.1 (M.2.2 v0 6) v4.toNatClampNeg) = ((-1)) then
        (f_X6_setKnownAt_40 (f_X6_setKnownAt_41 (f_X6_setKnownAt_5 Γ M n) Γ M) Γ M v0 v1 v2 v3 v4)
      else
        if v2 < (M.1 (M.2.2 v0 6) v4.toNatClampNeg) then
          (f_X6_setKnownAt_40 (f_X6_setKnownAt_41 (f_X6_setKnownAt_5 Γ M n) Γ M) Γ M v0 v1 v2 v3 v4)
        else
          f_X6_setKnownAt_41 (f_X6_setKnownAt_5 Γ M n) Γ M v0 v1 v2 v3 v4 1)
    else
      some v3
def f_X6_setKnownAt (Γ : rhG) (M : rhM) (v0 : Nat) (v1 : Int32) (v2 : Int32) : Option (Int32) :=
  f_X6_setKnownAt_5 Γ M rhFU v0 v1 v2 0 0
set_option maxHeartbeats 4000000 in
set_option maxRecDepth 100000 in
theorem b_X6_setKnownAt_40 {E : rhE} {Γ : rhG} {M : rhM} {k41 : Nat → Int32 → Int32 → Int32 → Int32 → Int32 → Option (Int32)} (hk41 : ∀ (v0 : Nat) (v1 : Int32) (v2 : Int32) (v3 : Int32) (v4 : Int32) (s0 : Int32), rhF E 1 6 yX6_setKnownAt cX6_setKnownAt (some .int) Γ (rhe0I Γ M) (k41 v0 v1 v2 v3 v4 s0) 41 [(0, rhR v0), (1, rhI v1), (2, rhI v2), (3, rhI v3), (4, rhI v4)] [rhI s0] Γ M) : ∀ (v0 : Nat) (v1 : Int32) (v2 : Int32) (v3 : Int32) (v4 : Int32), rhF E 1 6 yX6_setKnownAt cX6_setKnownAt (some .int) Γ (rhe0I Γ M) (f_X6_setKnownAt_40 k41 Γ M v0 v1 v2 v3 v4) 40 [(0, rhR v0), (1, rhI v1), (2, rhI v2), (3, rhI v3), (4, rhI v4)] [] Γ M := by
  intro v0 v1 v2 v3 v4
  rw [f_X6_setKnownAt_40]
  refine rhF.iconst (pc := 40) (v := 0) dX6_setKnownAt_40 (by decide) ?_
  exact hk41 _ _ _ _ _ _
set_option maxHeartbeats 4000000 in
set_option maxRecDepth 100000 in
theorem b_X6_setKnownAt_77 {E : rhE} {Γ : rhG} {M : rhM} {k5 : Nat → Int32 → Int32 → Int32 → Int32 → Option (Int32)} (hk5 : ∀ (v0 : Nat) (v1 : Int32) (v2 : Int32) (v3 : Int32) (v4 : Int32), rhF E 1 6 yX6_setKnownAt cX6_setKnownAt (some .int) Γ (rhe0I Γ M) (k5 v0 v1 v2 v3 v4) 5 [(0, rhR v0), (1, rhI v1), (2, rhI v2), (3, rhI v3), (4, rhI v4)] [] Γ M) : ∀ (v0 : Nat) (v1 : Int32) (v2 : Int32) (v3 : Int32) (v4 : Int32), rhF E 1 6 yX6_setKnownAt cX6_setKnownAt (some .int) Γ (rhe0I Γ M) (f_X6_setKnownAt_77 k5 Γ M v0 v1 v2 v3 v4) 77 [(0, rhR v0), (1, rhI v1), (2, rhI v2), (3, rhI v3), (4, rhI v4)] [] Γ M := by
  intro v0 v1 v2 v3 v4
  rw [f_X6_setKnownAt_77]
  refine rhF.iinc (pc := 77) (L' := [(4, rhI _), (0, rhR _), (1, rhI _), (2, rhI _), (3, rhI _)]) dX6_setKnownAt_77 4 rfl rfl (by decide) rfl ?_
  refine rhF.goto (pc := 80) 5 dX6_setKnownAt_80 (by decide) ?_
  refine rhF.sub [1, 2, 3, 4, 0] rfl ?_
  exact hk5 _ _ _ _ _
set_option maxHeartbeats 4000000 in
set_option maxRecDepth 100000 in
theorem b_X6_setKnownAt_41 {E : rhE} {Γ : rhG} {M : rhM} {k5 : Nat → Int32 → Int32 → Int32 → Int32 → Option (Int32)} (hk5 : ∀ (v0 : Nat) (v1 : Int32) (v2 : Int32) (v3 : Int32) (v4 : Int32), rhF E 1 6 yX6_setKnownAt cX6_setKnownAt (some .int) Γ (rhe0I Γ M) (k5 v0 v1 v2 v3 v4) 5 [(0, rhR v0), (1, rhI v1), (2, rhI v2), (3, rhI v3), (4, rhI v4)] [] Γ M) : ∀ (v0 : Nat) (v1 : Int32) (v2 : Int32) (v3 : Int32) (v4 : Int32) (s0 : Int32), rhF E 1 6 yX6_setKnownAt cX6_setKnownAt (some .int) Γ (rhe0I Γ M) (f_X6_setKnownAt_41 k5 Γ M v0 v1 v2 v3 v4 s0) 41 [(0, rhR v0), (1, rhI v1), (2, rhI v2), (3, rhI v3), (4, rhI v4)] [rhI s0] Γ M := by
  intro v0 v1 v2 v3 v4 s0
  rw [f_X6_setKnownAt_41]
  refine rhF.istore (pc := 41) (L' := [(5, rhI _), (0, rhR _), (1, rhI _), (2, rhI _), (3, rhI _), (4, rhI _)]) dX6_setKnownAt_41 (by decide) rfl ?_
  refine rhF.aload_n (pc := 43) dX6_setKnownAt_43 1 rfl ?_
  refine rhF.ck (fun h6 => ?_)
  refine rhF.get (pc := 44) (rhR _) dX6_setKnownAt_44 fl_X6_11 h6 rfl ?_
  refine rhF.iload (pc := 47) dX6_setKnownAt_47 5 rfl ?_
  refine rhF.ck (fun h7 => ?_)
  refine rhF.ck (fun h8 => ?_)
  refine rhF.iald (pc := 49) dX6_setKnownAt_49 h7 h8 ?_
  refine rhF.iload_n (pc := 50) dX6_setKnownAt_50 2 rfl ?_
  refine rhF.icmp_gt (pc := 51) 77 dX6_setKnownAt_51 (by decide) (fun h9 => ?_) (fun h9 => ?_)
  · refine rhF.sub [1, 2, 3, 4, 5] rfl ?_
    exact (b_X6_setKnownAt_77 hk5) _ _ _ _ _
  · refine rhF.aload_n (pc := 54) dX6_setKnownAt_54 1 rfl ?_
    refine rhF.get (pc := 55) (rhR _) dX6_setKnownAt_55 fl_X6_25 h6 rfl ?_
    refine rhF.iload (pc := 58) dX6_setKnownAt_58 5 rfl ?_
    refine rhF.ck (fun h11 => ?_)
    refine rhF.ck (fun h12 => ?_)
    refine rhF.iald (pc := 60) dX6_setKnownAt_60 h11 h12 ?_
    refine rhF.iload_n (pc := 61) dX6_setKnownAt_61 3 rfl ?_
    refine rhF.icmp_gt (pc := 62) 77 dX6_setKnownAt_62 (by decide) (fun h13 => ?_) (fun h13 => ?_)
    · refine rhF.sub [1, 2, 3, 4, 5] rfl ?_
      exact (b_X6_setKnownAt_77 hk5) _ _ _ _ _
    · refine rhF.iload (pc := 65) dX6_setKnownAt_65 0 rfl ?_
      refine rhF.if_ne (pc := 67) 77 dX6_setKnownAt_67 (by decide) (fun h14 => ?_) (fun h14 => ?_)
      · refine rhF.iload_n (pc := 70) dX6_setKnownAt_70 4 rfl ?_
        refine rhF.iconst (pc := 71) (v := 1) dX6_setKnownAt_71 (by decide) ?_
        refine rhF.iload (pc := 72) dX6_setKnownAt_72 5 rfl ?_
        refine rhF.ishl (pc := 74) dX6_setKnownAt_74 ?_
        refine rhF.ior (pc := 75) dX6_setKnownAt_75 ?_
        refine rhF.istore_n (pc := 76) (L' := [(3, rhI _), (5, rhI _), (0, rhR _), (1, rhI _), (2, rhI _), (4, rhI _)]) dX6_setKnownAt_76 (by decide) rfl ?_
        refine rhF.sub [2, 3, 4, 0, 5] rfl ?_
        exact (b_X6_setKnownAt_77 hk5) _ _ _ _ _
      · refine rhF.sub [1, 2, 3, 4, 5] rfl ?_
        exact (b_X6_setKnownAt_77 hk5) _ _ _ _ _
set_option maxHeartbeats 4000000 in
set_option maxRecDepth 100000 in
theorem b_X6_setKnownAt_5 {E : rhE} {Γ : rhG} {M : rhM} : ∀ (n : Nat) (v0 : Nat) (v1 : Int32) (v2 : Int32) (v3 : Int32) (v4 : Int32), rhF E 1 6 yX6_setKnownAt cX6_setKnownAt (some .int) Γ (rhe0I Γ M) (f_X6_setKnownAt_5 Γ M n v0 v1 v2 v3 v4) 5 [(0, rhR v0), (1, rhI v1), (2, rhI v2), (3, rhI v3), (4, rhI v4)] [] Γ M := by
  intro n
  induction n with
  | zero => intro v0 v1 v2 v3 v4; rw [f_X6_setKnownAt_5]; exact rhF.nope
  | succ n ih =>
    intro v0 v1 v2 v3 v4
    rw [f_X6_setKnownAt_5]
    refine rhF.iload (pc := 5) dX6_setKnownAt_5 4 rfl ?_
    refine rhF.aload_n (pc := 7) dX6_setKnownAt_7 0 rfl ?_
    refine rhF.ck (fun h1 => ?_)
    refine rhF.get (pc := 8) (rhI _) dX6_setKnownAt_8 fl_X6_56 h1 rfl ?_
    refine rhF.icmp_ge (pc := 11) 83 dX6_setKnownAt_11 (by decide) (fun h2 => ?_) (fun h2 => ?_)
    · refine rhF.aload_n (pc := 14) dX6_setKnownAt_14 0 rfl ?_
      refine rhF.get (pc := 15) (rhR _) dX6_setKnownAt_15 fl_X6_28 h1 rfl ?_
      refine rhF.iload (pc := 18) dX6_setKnownAt_18 4 rfl ?_
      refine rhF.ck (fun h3 => ?_)
      refine rhF.ck (fun h4 => ?_)
      refine rhF.iald (pc := 20) dX6_setKnownAt_20 h3 h4 ?_
      refine rhF.iconst (pc := 21) (v := (-1)) dX6_setKnownAt_21 (by decide) ?_
      refine rhF.icmp_eq (pc := 22) 40 dX6_setKnownAt_22 (by decide) (fun h5 => ?_) (fun h5 => ?_)
      · exact (b_X6_setKnownAt_40 (b_X6_setKnownAt_41 ih)) _ _ _ _ _
      · refine rhF.aload_n (pc := 25) dX6_setKnownAt_25 0 rfl ?_
        refine rhF.get (pc := 26) (rhR _) dX6_setKnownAt_26 fl_X6_28 h1 rfl ?_
        refine rhF.iload (pc := 29) dX6_setKnownAt_29 4 rfl ?_
        refine rhF.iald (pc := 31) dX6_setKnownAt_31 h3 h4 ?_
        refine rhF.iload_n (pc := 32) dX6_setKnownAt_32 2 rfl ?_
        refine rhF.icmp_gt (pc := 33) 40 dX6_setKnownAt_33 (by decide) (fun h16 => ?_) (fun h16 => ?_)
        · exact (b_X6_setKnownAt_40 (b_X6_setKnownAt_41 ih)) _ _ _ _ _
        · refine rhF.iconst (pc := 36) (v := 1) dX6_setKnownAt_36 (by decide) ?_
          refine rhF.goto (pc := 37) 41 dX6_setKnownAt_37 (by decide) ?_
          exact (b_X6_setKnownAt_41 ih) _ _ _ _ _ _
    · refine rhF.iload_n (pc := 83) dX6_setKnownAt_83 3 rfl ?_
      exact rhF.zret (pc := 84) dX6_setKnownAt_84 rfl rfl rfl
set_option maxHeartbeats 4000000 in
set_option maxRecDepth 100000 in
theorem b_X6_setKnownAt {E : rhE} {Γ : rhG} {M : rhM} : ∀ (v0 : Nat) (v1 : Int32) (v2 : Int32), rhF E 1 6 yX6_setKnownAt cX6_setKnownAt (some .int) Γ (rhe0I Γ M) (f_X6_setKnownAt Γ M v0 v1 v2) 0 [(0, rhR v0), (1, rhI v1), (2, rhI v2)] [] Γ M := by
  intro v0 v1 v2
  rw [f_X6_setKnownAt]
  refine rhF.iconst (pc := 0) (v := 0) dX6_setKnownAt_0 (by decide) ?_
  refine rhF.istore_n (pc := 1) (L' := [(3, rhI _), (0, rhR _), (1, rhI _), (2, rhI _)]) dX6_setKnownAt_1 (by decide) rfl ?_
  refine rhF.iconst (pc := 2) (v := 0) dX6_setKnownAt_2 (by decide) ?_
  refine rhF.istore (pc := 3) (L' := [(4, rhI _), (3, rhI _), (0, rhR _), (1, rhI _), (2, rhI _)]) dX6_setKnownAt_3 (by decide) rfl ?_
  refine rhF.sub [2, 3, 4, 1, 0] rfl ?_
  exact (b_X6_setKnownAt_5 rhFU) _ _ _ _ _
theorem c_X6_setKnownAt (E : rhE) (Γ : rhG) (M : rhM) (v0 : Nat) (v1 : Int32) (v2 : Int32) : ∀ a, f_X6_setKnownAt Γ M v0 v1 v2 = some a → rhC E 1 yX6_setKnownAt cX6_setKnownAt 6 (some .int) [rhR v0, rhI v1, rhI v2] Γ M ((rhe0I Γ M) a) := rhF.met (by decide +kernel) (Nat.le_of_ble_eq_true rfl) (b_X6_setKnownAt v0 v1 v2)
def f_X6_count (Γ : rhG) (M : rhM) (v0 : Nat) (v1 : Nat) (v2 : Int32) (v3 : Int32) : Option (rhM) :=
  rhck (Γ.2.2.1 v0 = 7) <|
  (f_X6_setKnownAt Γ M v0 v2 v3).bind fun r2 =>
  rhck (Γ.2.2.1 (M.2.2 v0 12) = 15) <|
  rhck (0 ≤ (v2).toInt ∧ (v2).toInt < (Γ.2.2.2 (M.2.2 v0 12) : Nat)) <|
  if (M.1 (M.2.2 v0 12) v2.toNatClampNeg) = r2 then
    (some M)
  else
    let M6 := rhsi M (M.2.2 v0 12) (v2 : Int32).toNatClampNeg r2
    rhck (Γ.2.2.1 (M.2.2 v0 13) = 15) <|
    rhck (0 ≤ (v2).toInt ∧ (v2).toInt < (Γ.2.2.2 (M.2.2 v0 13) : Nat)) <|
    let M9 := rhsi M6 (M.2.2 v0 13) (v2 : Int32).toNatClampNeg 0
    (f_J7_fill_fda19 Γ M9 (M.2.2 v0 14) (v2 * 5) ((v2 + 1) * 5) (0 : Int32)).bind fun r10 =>
    let M11 := rhsr r10 v0 9 v1
    let M12 := rhsi M11 v0 10 r2
    let M13 := rhsi M12 v0 11 v2
    rhck (Γ.2.2.1 (M11.2.2 v0 8) = 3) <|
    (f_X2_begin Γ M13 (M11.2.2 v0 8) v1).bind fun r15 =>
    rhck (Γ.2.2.1 (r15.2.2 v0 7) = 19) <|
    rhck (0 ≤ (0 : Int32).toInt ∧ (0 : Int32).toInt < (Γ.2.2.2 (r15.2.2 v0 7) : Nat)) <|
    rhck (Γ.2.2.1 v1 = 10) <|
    rhck (Γ.2.2.1 (r15.2.2 (r15.2.2 v0 7) (0 : Int32).toNatClampNeg) = 8) <|
    (f_X7_look Γ r15 (r15.2.2 (r15.2.2 v0 7) (0 : Int32).toNatClampNeg) v1 (r15.2.1 v1 5)).bind fun r20 =>
    (h_X6_goOn rhDP Γ r20 v0 (0 : Int32)).bind fun r21 =>
    some r21
set_option maxHeartbeats 4000000 in
set_option maxRecDepth 100000 in
theorem b_X6_count {E : rhE} {Γ : rhG} : ∀ (M : rhM) (v0 : Nat) (v1 : Nat) (v2 : Int32) (v3 : Int32), rhF E 70 5 yX6_count cX6_count none Γ (rhe1U Γ) (f_X6_count Γ M v0 v1 v2 v3) 0 [(0, rhR v0), (1, rhR v1), (2, rhI v2), (3, rhI v3)] [] Γ M := by
  intro M v0 v1 v2 v3
  rw [f_X6_count]
  refine rhF.aload_n (pc := 0) dX6_count_0 0 rfl ?_
  refine rhF.iload_n (pc := 1) dX6_count_1 2 rfl ?_
  refine rhF.iload_n (pc := 2) dX6_count_2 3 rfl ?_
  refine rhF.ck (fun h1 => ?_)
  refine rhF.callV (pc := 3) (ci := 6) (embc := rhe0I _ _) [rhI _, rhI _] dX6_count_3 ml_X6_66 mv_X6_setKnownAt ⟨_, rfl, rfl⟩ h1 (c_X6_setKnownAt _ _ _ _ _ _) (by decide) (by decide) rfl (Nat.le_of_ble_eq_true rfl) (fun r2 _ => ?_)
  refine rhF.istore (pc := 6) (L' := [(4, rhI _), (0, rhR _), (1, rhR _), (2, rhI _), (3, rhI _)]) dX6_count_6 (by decide) rfl ?_
  refine rhF.aload_n (pc := 8) dX6_count_8 1 rfl ?_
  refine rhF.get (pc := 9) (rhR _) dX6_count_9 fl_X6_46 h1 rfl ?_
  refine rhF.iload_n (pc := 12) dX6_count_12 3 rfl ?_
  refine rhF.ck (fun h3 => ?_)
  refine rhF.ck (fun h4 => ?_)
  refine rhF.iald (pc := 13) dX6_count_13 h3 h4 ?_
  refine rhF.iload (pc := 14) dX6_count_14 0 rfl ?_
  refine rhF.icmp_ne (pc := 16) 20 dX6_count_16 (by decide) (fun h5 => ?_) (fun h5 => ?_)
  · exact rhF.vret (pc := 19) dX6_count_19 rfl rfl
  · refine rhF.aload_n (pc := 20) dX6_count_20 1 rfl ?_
    refine rhF.get (pc := 21) (rhR _) dX6_count_21 fl_X6_46 h1 rfl ?_
    refine rhF.iload_n (pc := 24) dX6_count_24 3 rfl ?_
    refine rhF.iload (pc := 25) dX6_count_25 0 rfl ?_
    refine rhF.iast (pc := 27) dX6_count_27 h3 h4 ?_
    refine rhF.aload_n (pc := 28) dX6_count_28 1 rfl ?_
    refine rhF.get (pc := 29) (rhR _) dX6_count_29 fl_X6_49 h1 rfl ?_
    refine rhF.iload_n (pc := 32) dX6_count_32 3 rfl ?_
    refine rhF.iconst (pc := 33) (v := 0) dX6_count_33 (by decide) ?_
    refine rhF.ck (fun h7 => ?_)
    refine rhF.ck (fun h8 => ?_)
    refine rhF.iast (pc := 34) dX6_count_34 h7 h8 ?_
    refine rhF.aload_n (pc := 35) dX6_count_35 1 rfl ?_
    refine rhF.get (pc := 36) (rhR _) dX6_count_36 fl_X6_52 h1 rfl ?_
    refine rhF.iload_n (pc := 39) dX6_count_39 3 rfl ?_
    refine rhF.iconst (pc := 40) (v := 5) dX6_count_40 (by decide) ?_
    refine rhF.imul (pc := 41) dX6_count_41 ?_
    refine rhF.iload_n (pc := 42) dX6_count_42 3 rfl ?_
    refine rhF.iconst (pc := 43) (v := 1) dX6_count_43 (by decide) ?_
    refine rhF.iadd (pc := 44) dX6_count_44 ?_
    refine rhF.iconst (pc := 45) (v := 5) dX6_count_45 (by decide) ?_
    refine rhF.imul (pc := 46) dX6_count_46 ?_
    refine rhF.iconst (pc := 47) (v := 0) dX6_count_47 (by decide) ?_
    refine rhF.callS (pc := 48) (embc := rhe1U _) [rhR _, rhI _, rhI _, rhI _] dX6_count_48 ml_X6_70 ms_J7_fill_fda19 (c_J7_fill_fda19 _ _ _ _ _ _ _) (by decide) (by decide) rfl (Nat.le_of_ble_eq_true rfl) (fun r10 _ => ?_)
    refine rhF.aload_n (pc := 51) dX6_count_51 1 rfl ?_
    refine rhF.aload_n (pc := 52) dX6_count_52 2 rfl ?_
    refine rhF.putr (pc := 53) dX6_count_53 fl_X6_73 h1 (fun q hq => by cases hq; exact Or.inl rfl) (Or.inl ⟨_, rfl⟩) (fun _ => rfl) ?_
    refine rhF.aload_n (pc := 56) dX6_count_56 1 rfl ?_
    refine rhF.iload (pc := 57) dX6_count_57 0 rfl ?_
    refine rhF.puti (pc := 59) dX6_count_59 fl_X6_77 h1 (fun q hq => by cases hq; exact Or.inl rfl) ⟨rfl, rfl⟩ (fun _ => rfl) ?_
    refine rhF.aload_n (pc := 62) dX6_count_62 1 rfl ?_
    refine rhF.iload_n (pc := 63) dX6_count_63 3 rfl ?_
    refine rhF.puti (pc := 64) dX6_count_64 fl_X6_80 h1 (fun q hq => by cases hq; exact Or.inl rfl) ⟨rfl, rfl⟩ (fun _ => rfl) ?_
    refine rhF.aload_n (pc := 67) dX6_count_67 1 rfl ?_
    refine rhF.get (pc := 68) (rhR _) dX6_count_68 fl_X6_42 h1 rfl ?_
    refine rhF.aload_n (pc := 71) dX6_count_71 2 rfl ?_
    refine rhF.ck (fun h14 => ?_)
    refine rhF.callV (pc := 72) (ci := 2) (embc := rhe1U _) [rhR _] dX6_count_72 ml_X6_83 mv_X2_begin ⟨_, rfl, rfl⟩ h14 (c_X2_begin _ _ _ _ _) (by decide) (by decide) rfl (Nat.le_of_ble_eq_true rfl) (fun r15 _ => ?_)
    refine rhF.aload_n (pc := 75) dX6_count_75 1 rfl ?_
    refine rhF.get (pc := 76) (rhR _) dX6_count_76 fl_X6_33 h1 rfl ?_
    refine rhF.iconst (pc := 79) (v := 0) dX6_count_79 (by decide) ?_
    refine rhF.ck (fun h16 => ?_)
    refine rhF.ck (fun h17 => ?_)
    refine rhF.aldS (pc := 80) dX6_count_80 h16 h17 ?_
    refine rhF.aload_n (pc := 81) dX6_count_81 2 rfl ?_
    refine rhF.aload_n (pc := 82) dX6_count_82 2 rfl ?_
    refine rhF.ck (fun h18 => ?_)
    refine rhF.get (pc := 83) (rhJ _) dX6_count_83 fl_X6_87 h18 rfl ?_
    refine rhF.ck (fun h19 => ?_)
    refine rhF.callV (pc := 86) (ci := 7) (embc := rhe1U _) [rhR _, rhJ _] dX6_count_86 ml_X6_93 mv_X7_look ⟨_, rfl, rfl⟩ h19 (c_X7_look _ _ _ _ _ _) (by decide) (by decide) rfl (Nat.le_of_ble_eq_true rfl) (fun r20 _ => ?_)
    refine rhF.aload_n (pc := 89) dX6_count_89 1 rfl ?_
    refine rhF.iconst (pc := 90) (v := 0) dX6_count_90 (by decide) ?_
    refine rhF.callV (pc := 91) (ci := 6) (embc := rhe1U _) [rhI _] dX6_count_91 ml_X6_97 mv_X6_goOn ⟨_, rfl, rfl⟩ h1 (c_X6_goOn _ rhDP _ _ _ _) (by decide) (by decide) rfl (Nat.le_of_ble_eq_true rfl) (fun r21 _ => ?_)
    exact rhF.vret (pc := 94) dX6_count_94 rfl rfl
theorem c_X6_count (E : rhE) (Γ : rhG) (M : rhM) (v0 : Nat) (v1 : Nat) (v2 : Int32) (v3 : Int32) : ∀ a, f_X6_count Γ M v0 v1 v2 v3 = some a → rhC E 70 yX6_count cX6_count 5 none [rhR v0, rhR v1, rhI v2, rhI v3] Γ M ((rhe1U Γ) a) := rhF.met (by decide +kernel) (Nat.le_of_ble_eq_true rfl) (b_X6_count M v0 v1 v2 v3)
def f_X6_init_96 : Nat → rhG → rhM → Nat → Int32 → Option (rhG × rhM)
  | 0, _, _, _, _ => none
  | n + 1, Γ, M, v0, v1 =>
    if 3 < v1 then
      (some (Γ, M))
    else
      rhck (Γ.2.2.1 v0 = 7) <|
      let M61 := rhmn M (nu (Γ.1 + 1))
      let G60 := rhgn Γ 8 0 12
      rhck (G60.2.2.1 ((nu (Γ.1 + 1))) = 8) <|
      (f_X7_init G60 M61 ((nu (Γ.1 + 1)))).bind fun r63 =>
      rhck (r63.1.2.2.1 (M.2.2 v0 7) = 19) <|
      rhck (0 ≤ (v1).toInt ∧ (v1).toInt < (r63.1.2.2.2 (M.2.2 v0 7) : Nat)) <|
      rhck (r63.1.2.2.1 ((nu (Γ.1 + 1))) = 8) <|
      let M67 := rhsr r63.2 (M.2.2 v0 7) (v1 : Int32).toNatClampNeg ((nu (Γ.1 + 1)))
      let x68 : Int32 := v1 + 1
      f_X6_init_96 n r63.1 M67 v0 x68
def f_X6_init (Γ : rhG) (M : rhM) (v0 : Nat) : Option (rhG × rhM) :=
  rhck (Γ.2.2.1 v0 = 7) <|
  rhck (0 ≤ (20 : Int32).toInt ∧ (20 : Int32).toInt ≤ 67108864) <|
  let M4 := rhmn M (nu (Γ.1 + 1))
  let G3 := rhgn Γ 15 (20 : Int32).toNatClampNeg (20 : Int32).toNatClampNeg
  rhck (G3.2.2.1 v0 = 7) <|
  let M6 := rhsr M4 v0 1 ((nu (Γ.1 + 1)))
  rhck (0 ≤ (20 : Int32).toInt ∧ (20 : Int32).toInt ≤ 67108864) <|
  let M9 := rhmn M6 (nu (G3.1 + 1))
  let G8 := rhgn G3 15 (20 : Int32).toNatClampNeg (20 : Int32).toNatClampNeg
  rhck (G8.2.2.1 v0 = 7) <|
  let M11 := rhsr M9 v0 2 ((nu (G3.1 + 1)))
  rhck (0 ≤ (20 : Int32).toInt ∧ (20 : Int32).toInt ≤ 67108864) <|
  let M14 := rhmn M11 (nu (G8.1 + 1))
  let G13 := rhgn G8 15 (20 : Int32).toNatClampNeg (20 : Int32).toNatClampNeg
  rhck (G13.2.2.1 v0 = 7) <|
  let M16 := rhsr M14 v0 3 ((nu (G8.1 + 1)))
  rhck (0 ≤ (20 : Int32).toInt ∧ (20 : Int32).toInt ≤ 67108864) <|
  let M19 := rhmn M16 (nu (G13.1 + 1))
  let G18 := rhgn G13 17 (20 : Int32).toNatClampNeg (20 : Int32).toNatClampNeg
  rhck (G18.2.2.1 v0 = 7) <|
  let M21 := rhsr M19 v0 4 ((nu (G13.1 + 1)))
  rhck (0 ≤ (20 : Int32).toInt ∧ (20 : Int32).toInt ≤ 67108864) <|
  let M24 := rhmn M21 (nu (G18.1 + 1))
  let G23 := rhgn G18 15 (20 : Int32).toNatClampNeg (20 : Int32).toNatClampNeg
  rhck (G23.2.2.1 v0 = 7) <|
  let M26 := rhsr M24 v0 5 ((nu (G18.1 + 1)))
  rhck (0 ≤ (20 : Int32).toInt ∧ (20 : Int32).toInt ≤ 67108864) <|
  let M29 := rhmn M26 (nu (G23.1 + 1))
  let G28 := rhgn G23 15 (20 : Int32).toNatClampNeg (20 : Int32).toNatClampNeg
  rhck (G28.2.2.1 v0 = 7) <|
  let M31 := rhsr M29 v0 6 ((nu (G23.1 + 1)))
  rhck (0 ≤ (4 : Int32).toInt ∧ (4 : Int32).toInt ≤ 67108864) <|
  let M34 := rhmn M31 (nu (G28.1 + 1))
  let G33 := rhgn G28 19 (4 : Int32).toNatClampNeg (4 : Int32).toNatClampNeg
  rhck (G33.2.2.1 v0 = 7) <|
  let M36 := rhsr M34 v0 7 ((nu (G28.1 + 1)))
  let M38 := rhmn M36 (nu (G33.1 + 1))
  let G37 := rhgn G33 3 0 2
  rhck (G37.2.2.1 ((nu (G33.1 + 1))) = 3) <|
  (f_X2_init G37 M38 ((nu (G33.1 + 1))) (0 : Int32)).bind fun r40 =>
  rhck (r40.1.2.2.1 v0 = 7) <|
  let M42 := rhsr r40.2 v0 8 ((nu (G33.1 + 1)))
  rhck (0 ≤ (4 : Int32).toInt ∧ (4 : Int32).toInt ≤ 67108864) <|
  let M45 := rhmn M42 (nu (r40.1.1 + 1))
  let G44 := rhgn r40.1 15 (4 : Int32).toNatClampNeg (4 : Int32).toNatClampNeg
  rhck (G44.2.2.1 v0 = 7) <|
  let M47 := rhsr M45 v0 12 ((nu (r40.1.1 + 1)))
  rhck (0 ≤ (4 : Int32).toInt ∧ (4 : Int32).toInt ≤ 67108864) <|
  let M50 := rhmn M47 (nu (G44.1 + 1))
  let G49 := rhgn G44 15 (4 : Int32).toNatClampNeg (4 : Int32).toNatClampNeg
  rhck (G49.2.2.1 v0 = 7) <|
  let M52 := rhsr M50 v0 13 ((nu (G44.1 + 1)))
  rhck (0 ≤ (20 : Int32).toInt ∧ (20 : Int32).toInt ≤ 67108864) <|
  let M55 := rhmn M52 (nu (G49.1 + 1))
  let G54 := rhgn G49 15 (20 : Int32).toNatClampNeg (20 : Int32).toNatClampNeg
  rhck (G54.2.2.1 v0 = 7) <|
  let M57 := rhsr M55 v0 14 ((nu (G49.1 + 1)))
  f_X6_init_96 rhFU G54 M57 v0 0
set_option maxHeartbeats 4000000 in
set_option maxRecDepth 100000 in
theorem b_X6_init_96 {E : rhE} {Γ0 : rhG} : ∀ (n : Nat) (Γ : rhG) (M : rhM) (v0 : Nat) (v1 : Int32), rhF E 6 2 yX6_init cX6_init none Γ0 rhe2U (f_X6_init_96 n Γ M v0 v1) 96 [(0, rhR v0), (1, rhI v1)] [] Γ M := by
  intro n
  induction n with
  | zero => intro Γ M v0 v1; rw [f_X6_init_96]; exact rhF.nope
  | succ n ih =>
    intro Γ M v0 v1
    rw [f_X6_init_96]
    refine rhF.iload_n (pc := 96) dX6_init_96 1 rfl ?_
    refine rhF.iconst (pc := 97) (v := 3) dX6_init_97 (by decide) ?_
    refine rhF.icmp_gt (pc := 98) 120 dX6_init_98 (by decide) (fun h58 => ?_) (fun h58 => ?_)
    · exact rhF.vret (pc := 120) dX6_init_120 rfl rfl
    · refine rhF.aload_n (pc := 101) dX6_init_101 0 rfl ?_
      refine rhF.ck (fun h59 => ?_)
      refine rhF.get (pc := 102) (rhR _) dX6_init_102 fl_X6_33 h59 rfl ?_
      refine rhF.iload_n (pc := 105) dX6_init_105 1 rfl ?_
      refine rhF.new (pc := 106) (ci := 7) dX6_init_106 nw_X6_31 ?_
      refine rhF.dupr (pc := 109) dX6_init_109 ?_
      refine rhF.ck (fun h62 => ?_)
      refine rhF.callIN (pc := 110) (embc := rhe2U) "RailHouses" [] dX6_init_110 (by decide +kernel) ne_X6_55 mi_X7_init (fun z => absurd (h62.symm.trans z) (by decide)) (c_X7_init _ _ _ _) (by decide) (by decide) rfl (Nat.le_of_ble_eq_true rfl) (fun r63 _ => ?_)
      refine rhF.ck (fun h64 => ?_)
      refine rhF.ck (fun h65 => ?_)
      refine rhF.ck (fun h66 => ?_)
      refine rhF.astS (pc := 113) dX6_init_113 h64 h66 h65 ?_
      refine rhF.iinc (pc := 114) (L' := [(1, rhI _), (0, rhR _)]) dX6_init_114 1 rfl rfl (by decide) rfl ?_
      refine rhF.goto (pc := 117) 96 dX6_init_117 (by decide) ?_
      refine rhF.sub [1, 0] rfl ?_
      exact ih _ _ _ _
set_option maxHeartbeats 4000000 in
set_option maxRecDepth 100000 in
theorem b_X6_init {E : rhE} {Γ0 : rhG} : ∀ (Γ : rhG) (M : rhM) (v0 : Nat), rhF E 6 2 yX6_init cX6_init none Γ0 rhe2U (f_X6_init Γ M v0) 0 [(0, rhR v0)] [] Γ M := by
  intro Γ M v0
  rw [f_X6_init]
  refine rhF.aload_n (pc := 0) dX6_init_0 0 rfl ?_
  refine rhF.ck (fun h1 => ?_)
  refine rhF.objInit (pc := 1) dX6_init_1 oi_X6_3 (fun z => absurd (h1.symm.trans z) (by decide)) (by decide) (Nat.le_of_ble_eq_true rfl) ?_
  refine rhF.aload_n (pc := 4) dX6_init_4 0 rfl ?_
  refine rhF.bipush (pc := 5) (v := 20) dX6_init_5 (by decide) ?_
  refine rhF.ck (fun h2 => ?_)
  refine rhF.newI (pc := 7) dX6_init_7 ac_int h2 ?_
  refine rhF.ck (fun h5 => ?_)
  refine rhF.putr (pc := 9) dX6_init_9 fl_X6_11 h5 (fun q hq => by cases hq; exact Or.inr ⟨rfl, rfl, rfl⟩) (Or.inr ⟨_, rfl⟩) (fun _ => rfl) ?_
  refine rhF.aload_n (pc := 12) dX6_init_12 0 rfl ?_
  refine rhF.bipush (pc := 13) (v := 20) dX6_init_13 (by decide) ?_
  refine rhF.ck (fun h7 => ?_)
  refine rhF.newI (pc := 15) dX6_init_15 ac_int h7 ?_
  refine rhF.ck (fun h10 => ?_)
  refine rhF.putr (pc := 17) dX6_init_17 fl_X6_15 h10 (fun q hq => by cases hq; exact Or.inr ⟨rfl, rfl, rfl⟩) (Or.inr ⟨_, rfl⟩) (fun _ => rfl) ?_
  refine rhF.aload_n (pc := 20) dX6_init_20 0 rfl ?_
  refine rhF.bipush (pc := 21) (v := 20) dX6_init_21 (by decide) ?_
  refine rhF.ck (fun h12 => ?_)
  refine rhF.newI (pc := 23) dX6_init_23 ac_int h12 ?_
  refine rhF.ck (fun h15 => ?_)
  refine rhF.putr (pc := 25) dX6_init_25 fl_X6_18 h15 (fun q hq => by cases hq; exact Or.inr ⟨rfl, rfl, rfl⟩) (Or.inr ⟨_, rfl⟩) (fun _ => rfl) ?_
  refine rhF.aload_n (pc := 28) dX6_init_28 0 rfl ?_
  refine rhF.bipush (pc := 29) (v := 20) dX6_init_29 (by decide) ?_
  refine rhF.ck (fun h17 => ?_)
  refine rhF.newZ (pc := 31) dX6_init_31 ac_boolean h17 ?_
  refine rhF.ck (fun h20 => ?_)
  refine rhF.putr (pc := 33) dX6_init_33 fl_X6_21 h20 (fun q hq => by cases hq; exact Or.inr ⟨rfl, rfl, rfl⟩) (Or.inr ⟨_, rfl⟩) (fun _ => rfl) ?_
  refine rhF.aload_n (pc := 36) dX6_init_36 0 rfl ?_
  refine rhF.bipush (pc := 37) (v := 20) dX6_init_37 (by decide) ?_
  refine rhF.ck (fun h22 => ?_)
  refine rhF.newI (pc := 39) dX6_init_39 ac_int h22 ?_
  refine rhF.ck (fun h25 => ?_)
  refine rhF.putr (pc := 41) dX6_init_41 fl_X6_25 h25 (fun q hq => by cases hq; exact Or.inr ⟨rfl, rfl, rfl⟩) (Or.inr ⟨_, rfl⟩) (fun _ => rfl) ?_
  refine rhF.aload_n (pc := 44) dX6_init_44 0 rfl ?_
  refine rhF.bipush (pc := 45) (v := 20) dX6_init_45 (by decide) ?_
  refine rhF.ck (fun h27 => ?_)
  refine rhF.newI (pc := 47) dX6_init_47 ac_int h27 ?_
  refine rhF.ck (fun h30 => ?_)
  refine rhF.putr (pc := 49) dX6_init_49 fl_X6_28 h30 (fun q hq => by cases hq; exact Or.inr ⟨rfl, rfl, rfl⟩) (Or.inr ⟨_, rfl⟩) (fun _ => rfl) ?_
  refine rhF.aload_n (pc := 52) dX6_init_52 0 rfl ?_
  refine rhF.iconst (pc := 53) (v := 4) dX6_init_53 (by decide) ?_
  refine rhF.ck (fun h32 => ?_)
  refine rhF.newS (pc := 54) dX6_init_54 cl_X6_31 h32 ?_
  refine rhF.ck (fun h35 => ?_)
  refine rhF.putr (pc := 57) dX6_init_57 fl_X6_33 h35 (fun q hq => by cases hq; exact Or.inr ⟨rfl, rfl, rfl⟩) (Or.inr ⟨_, rfl⟩) (fun _ => rfl) ?_
  refine rhF.aload_n (pc := 60) dX6_init_60 0 rfl ?_
  refine rhF.new (pc := 61) (ci := 2) dX6_init_61 nw_X6_37 ?_
  refine rhF.dupr (pc := 64) dX6_init_64 ?_
  refine rhF.iconst (pc := 65) (v := 0) dX6_init_65 (by decide) ?_
  refine rhF.ck (fun h39 => ?_)
  refine rhF.callI (pc := 66) (embc := rhe2U) [rhI _] dX6_init_66 ml_X6_39 mi_X2_init (fun z => absurd (h39.symm.trans z) (by decide)) (c_X2_init _ _ _ _ _) (by decide) (by decide) rfl (Nat.le_of_ble_eq_true rfl) (fun r40 _ => ?_)
  refine rhF.ck (fun h41 => ?_)
  refine rhF.putr (pc := 69) dX6_init_69 fl_X6_42 h41 (fun q hq => by cases hq; exact Or.inr ⟨rfl, rfl, rfl⟩) (Or.inl ⟨_, rfl⟩) (fun _ => rfl) ?_
  refine rhF.aload_n (pc := 72) dX6_init_72 0 rfl ?_
  refine rhF.iconst (pc := 73) (v := 4) dX6_init_73 (by decide) ?_
  refine rhF.ck (fun h43 => ?_)
  refine rhF.newI (pc := 74) dX6_init_74 ac_int h43 ?_
  refine rhF.ck (fun h46 => ?_)
  refine rhF.putr (pc := 76) dX6_init_76 fl_X6_46 h46 (fun q hq => by cases hq; exact Or.inr ⟨rfl, rfl, rfl⟩) (Or.inr ⟨_, rfl⟩) (fun _ => rfl) ?_
  refine rhF.aload_n (pc := 79) dX6_init_79 0 rfl ?_
  refine rhF.iconst (pc := 80) (v := 4) dX6_init_80 (by decide) ?_
  refine rhF.ck (fun h48 => ?_)
  refine rhF.newI (pc := 81) dX6_init_81 ac_int h48 ?_
  refine rhF.ck (fun h51 => ?_)
  refine rhF.putr (pc := 83) dX6_init_83 fl_X6_49 h51 (fun q hq => by cases hq; exact Or.inr ⟨rfl, rfl, rfl⟩) (Or.inr ⟨_, rfl⟩) (fun _ => rfl) ?_
  refine rhF.aload_n (pc := 86) dX6_init_86 0 rfl ?_
  refine rhF.bipush (pc := 87) (v := 20) dX6_init_87 (by decide) ?_
  refine rhF.ck (fun h53 => ?_)
  refine rhF.newI (pc := 89) dX6_init_89 ac_int h53 ?_
  refine rhF.ck (fun h56 => ?_)
  refine rhF.putr (pc := 91) dX6_init_91 fl_X6_52 h56 (fun q hq => by cases hq; exact Or.inr ⟨rfl, rfl, rfl⟩) (Or.inr ⟨_, rfl⟩) (fun _ => rfl) ?_
  refine rhF.iconst (pc := 94) (v := 0) dX6_init_94 (by decide) ?_
  refine rhF.istore_n (pc := 95) (L' := [(1, rhI _), (0, rhR _)]) dX6_init_95 (by decide) rfl ?_
  refine rhF.sub [1, 0] rfl ?_
  exact (b_X6_init_96 rhFU) _ _ _ _
theorem c_X6_init (E : rhE) (Γ : rhG) (M : rhM) (v0 : Nat) : ∀ a, f_X6_init Γ M v0 = some a → rhC E 6 yX6_init cX6_init 2 none [rhR v0] Γ M (rhe2U a) := rhF.met (by decide +kernel) (Nat.le_of_ble_eq_true rfl) (b_X6_init (Γ0 := Γ) Γ M v0)
def f_X6_railsOf_5 (Γ : rhG) (M : rhM) : Nat → Nat → Int32 → Int32 → Int32 → Int32 → Option (Int32)
  | 0, _, _, _, _, _ => none
  | n + 1, v0, v1, v2, v3, v4 =>
    if v4 < 5 then
      (rhck (Γ.2.2.1 v0 = 7) <|
      rhck (Γ.2.2.1 (M.2.2 v0 14) = 15) <|
      rhck (0 ≤ ((v2 * 5) + v4).toInt ∧ ((v2 * 5) + v4).toInt < (Γ.2.2.2 (M.2.2 v0 14) : Nat)) <|
      let x5 := v3 ||| (((rhus (M.1 (M.2.2 v0 14) ((v2 * 5) + v4).toNatClampNeg) v1) &&& 1) <<< (v4 &&& 31))
      let x6 : Int32 := v4 + 1
      f_X6_railsOf_5 Γ M n v0 v1 v2 x5 x6)
    else
      some v3
def f_X6_railsOf (Γ : rhG) (M : rhM) (v0 : Nat) (v1 : Int32) (v2 : Int32) : Option (Int32) :=
  f_X6_railsOf_5 Γ M rhFU v0 v1 v2 0 0
set_option maxHeartbeats 4000000 in
set_option maxRecDepth 100000 in
theorem b_X6_railsOf_5 {E : rhE} {Γ : rhG} {M : rhM} : ∀ (n : Nat) (v0 : Nat) (v1 : Int32) (v2 : Int32) (v3 : Int32) (v4 : Int32), rhF E 1 5 yX6_railsOf cX6_railsOf (some .int) Γ (rhe0I Γ M) (f_X6_railsOf_5 Γ M n v0 v1 v2 v3 v4) 5 [(0, rhR v0), (1, rhI v1), (2, rhI v2), (3, rhI v3), (4, rhI v4)] [] Γ M := by
  intro n
  induction n with
  | zero => intro v0 v1 v2 v3 v4; rw [f_X6_railsOf_5]; exact rhF.nope
  | succ n ih =>
    intro v0 v1 v2 v3 v4
    rw [f_X6_railsOf_5]
    refine rhF.iload (pc := 5) dX6_railsOf_5 4 rfl ?_
    refine rhF.iconst (pc := 7) (v := 5) dX6_railsOf_7 (by decide) ?_
    refine rhF.icmp_ge (pc := 8) 38 dX6_railsOf_8 (by decide) (fun h1 => ?_) (fun h1 => ?_)
    · refine rhF.iload_n (pc := 11) dX6_railsOf_11 3 rfl ?_
      refine rhF.aload_n (pc := 12) dX6_railsOf_12 0 rfl ?_
      refine rhF.ck (fun h2 => ?_)
      refine rhF.get (pc := 13) (rhR _) dX6_railsOf_13 fl_X6_52 h2 rfl ?_
      refine rhF.iload_n (pc := 16) dX6_railsOf_16 2 rfl ?_
      refine rhF.iconst (pc := 17) (v := 5) dX6_railsOf_17 (by decide) ?_
      refine rhF.imul (pc := 18) dX6_railsOf_18 ?_
      refine rhF.iload (pc := 19) dX6_railsOf_19 4 rfl ?_
      refine rhF.iadd (pc := 21) dX6_railsOf_21 ?_
      refine rhF.ck (fun h3 => ?_)
      refine rhF.ck (fun h4 => ?_)
      refine rhF.iald (pc := 22) dX6_railsOf_22 h3 h4 ?_
      refine rhF.iload_n (pc := 23) dX6_railsOf_23 1 rfl ?_
      refine rhF.iushr (pc := 24) dX6_railsOf_24 ?_
      refine rhF.iconst (pc := 25) (v := 1) dX6_railsOf_25 (by decide) ?_
      refine rhF.iand (pc := 26) dX6_railsOf_26 ?_
      refine rhF.iload (pc := 27) dX6_railsOf_27 4 rfl ?_
      refine rhF.ishl (pc := 29) dX6_railsOf_29 ?_
      refine rhF.ior (pc := 30) dX6_railsOf_30 ?_
      refine rhF.istore_n (pc := 31) (L' := [(3, rhI _), (0, rhR _), (1, rhI _), (2, rhI _), (4, rhI _)]) dX6_railsOf_31 (by decide) rfl ?_
      refine rhF.iinc (pc := 32) (L' := [(4, rhI _), (3, rhI _), (0, rhR _), (1, rhI _), (2, rhI _)]) dX6_railsOf_32 4 rfl rfl (by decide) rfl ?_
      refine rhF.goto (pc := 35) 5 dX6_railsOf_35 (by decide) ?_
      refine rhF.sub [2, 3, 4, 1, 0] rfl ?_
      exact ih _ _ _ _ _
    · refine rhF.iload_n (pc := 38) dX6_railsOf_38 3 rfl ?_
      exact rhF.zret (pc := 39) dX6_railsOf_39 rfl rfl rfl
set_option maxHeartbeats 4000000 in
set_option maxRecDepth 100000 in
theorem b_X6_railsOf {E : rhE} {Γ : rhG} {M : rhM} : ∀ (v0 : Nat) (v1 : Int32) (v2 : Int32), rhF E 1 5 yX6_railsOf cX6_railsOf (some .int) Γ (rhe0I Γ M) (f_X6_railsOf Γ M v0 v1 v2) 0 [(0, rhR v0), (1, rhI v1), (2, rhI v2)] [] Γ M := by
  intro v0 v1 v2
  rw [f_X6_railsOf]
  refine rhF.iconst (pc := 0) (v := 0) dX6_railsOf_0 (by decide) ?_
  refine rhF.istore_n (pc := 1) (L' := [(3, rhI _), (0, rhR _), (1, rhI _), (2, rhI _)]) dX6_railsOf_1 (by decide) rfl ?_
  refine rhF.iconst (pc := 2) (v := 0) dX6_railsOf_2 (by decide) ?_
  refine rhF.istore (pc := 3) (L' := [(4, rhI _), (3, rhI _), (0, rhR _), (1, rhI _), (2, rhI _)]) dX6_railsOf_3 (by decide) rfl ?_
  refine rhF.sub [2, 3, 4, 1, 0] rfl ?_
  exact (b_X6_railsOf_5 rhFU) _ _ _ _ _
theorem c_X6_railsOf (E : rhE) (Γ : rhG) (M : rhM) (v0 : Nat) (v1 : Int32) (v2 : Int32) : ∀ a, f_X6_railsOf Γ M v0 v1 v2 = some a → rhC E 1 yX6_railsOf cX6_railsOf 5 (some .int) [rhR v0, rhI v1, rhI v2] Γ M ((rhe0I Γ M) a) := rhF.met (by decide +kernel) (Nat.le_of_ble_eq_true rfl) (b_X6_railsOf v0 v1 v2)
def f_X6_remove (Γ : rhG) (M : rhM) (v0 : Nat) (v1 : Int32) (v2 : Int32) : Option (Int32 × rhM) :=
  if v1 < 0 then
    (some ((0, M)))
  else
    rhck (Γ.2.2.1 v0 = 7) <|
    if v1 < (M.1 v0 0) then
      (rhck (Γ.2.2.1 (M.2.2 v0 6) = 15) <|
      rhck (0 ≤ (v1).toInt ∧ (v1).toInt < (Γ.2.2.2 (M.2.2 v0 6) : Nat)) <|
      if (M.1 (M.2.2 v0 6) v1.toNatClampNeg) = ((-1)) then
        (let M7 := rhsi M (M.2.2 v0 6) (v1 : Int32).toNatClampNeg v2
        some ((1, M7)))
      else
        some ((0, M)))
    else
      some ((0, M))
set_option maxHeartbeats 4000000 in
set_option maxRecDepth 100000 in
theorem b_X6_remove {E : rhE} {Γ : rhG} : ∀ (M : rhM) (v0 : Nat) (v1 : Int32) (v2 : Int32), rhF E 1 3 yX6_remove cX6_remove (some .boolean) Γ (rhe1I Γ) (f_X6_remove Γ M v0 v1 v2) 0 [(0, rhR v0), (1, rhI v1), (2, rhI v2)] [] Γ M := by
  intro M v0 v1 v2
  rw [f_X6_remove]
  refine rhF.iload_n (pc := 0) dX6_remove_0 1 rfl ?_
  refine rhF.if_lt (pc := 1) 22 dX6_remove_1 (by decide) (fun h1 => ?_) (fun h1 => ?_)
  · refine rhF.iconst (pc := 22) (v := 0) dX6_remove_22 (by decide) ?_
    exact rhF.zret (pc := 23) dX6_remove_23 rfl rfl rfl
  · refine rhF.iload_n (pc := 4) dX6_remove_4 1 rfl ?_
    refine rhF.aload_n (pc := 5) dX6_remove_5 0 rfl ?_
    refine rhF.ck (fun h2 => ?_)
    refine rhF.get (pc := 6) (rhI _) dX6_remove_6 fl_X6_56 h2 rfl ?_
    refine rhF.icmp_ge (pc := 9) 22 dX6_remove_9 (by decide) (fun h3 => ?_) (fun h3 => ?_)
    · refine rhF.aload_n (pc := 12) dX6_remove_12 0 rfl ?_
      refine rhF.get (pc := 13) (rhR _) dX6_remove_13 fl_X6_28 h2 rfl ?_
      refine rhF.iload_n (pc := 16) dX6_remove_16 1 rfl ?_
      refine rhF.ck (fun h4 => ?_)
      refine rhF.ck (fun h5 => ?_)
      refine rhF.iald (pc := 17) dX6_remove_17 h4 h5 ?_
      refine rhF.iconst (pc := 18) (v := (-1)) dX6_remove_18 (by decide) ?_
      refine rhF.icmp_eq (pc := 19) 24 dX6_remove_19 (by decide) (fun h6 => ?_) (fun h6 => ?_)
      · refine rhF.aload_n (pc := 24) dX6_remove_24 0 rfl ?_
        refine rhF.get (pc := 25) (rhR _) dX6_remove_25 fl_X6_28 h2 rfl ?_
        refine rhF.iload_n (pc := 28) dX6_remove_28 1 rfl ?_
        refine rhF.iload_n (pc := 29) dX6_remove_29 2 rfl ?_
        refine rhF.iast (pc := 30) dX6_remove_30 h4 h5 ?_
        refine rhF.iconst (pc := 31) (v := 1) dX6_remove_31 (by decide) ?_
        exact rhF.zret (pc := 32) dX6_remove_32 rfl rfl rfl
      · refine rhF.iconst (pc := 22) (v := 0) dX6_remove_22 (by decide) ?_
        exact rhF.zret (pc := 23) dX6_remove_23 rfl rfl rfl
    · refine rhF.iconst (pc := 22) (v := 0) dX6_remove_22 (by decide) ?_
      exact rhF.zret (pc := 23) dX6_remove_23 rfl rfl rfl
theorem c_X6_remove (E : rhE) (Γ : rhG) (M : rhM) (v0 : Nat) (v1 : Int32) (v2 : Int32) : ∀ a, f_X6_remove Γ M v0 v1 v2 = some a → rhC E 1 yX6_remove cX6_remove 3 (some .boolean) [rhR v0, rhI v1, rhI v2] Γ M ((rhe1I Γ) a) := rhF.met (by decide +kernel) (Nat.le_of_ble_eq_true rfl) (b_X6_remove M v0 v1 v2)
def f_X7_count (Γ : rhG) (M : rhM) (v0 : Nat) (v1 : Int32) : Option (Int32) :=
  rhck (Γ.2.2.1 v0 = 8) <|
  rhck (Γ.2.2.1 (M.2.2 v0 3) = 15) <|
  rhck (0 ≤ (v1).toInt ∧ (v1).toInt < (Γ.2.2.2 (M.2.2 v0 3) : Nat)) <|
  rhck (Γ.2.2.1 (M.2.2 v0 2) = 15) <|
  rhck (0 ≤ (v1).toInt ∧ (v1).toInt < (Γ.2.2.2 (M.2.2 v0 2) : Nat)) <|
  some ((M.1 (M.2.2 v0 3) v1.toNatClampNeg) - (M.1 (M.2.2 v0 2) v1.toNatClampNeg))
set_option maxHeartbeats 4000000 in
set_option maxRecDepth 100000 in
theorem b_X7_count {E : rhE} {Γ : rhG} {M : rhM} : ∀ (v0 : Nat) (v1 : Int32), rhF E 1 2 yX7_count cX7_count (some .int) Γ (rhe0I Γ M) (f_X7_count Γ M v0 v1) 0 [(0, rhR v0), (1, rhI v1)] [] Γ M := by
  intro v0 v1
  rw [f_X7_count]
  refine rhF.aload_n (pc := 0) dX7_count_0 0 rfl ?_
  refine rhF.ck (fun h1 => ?_)
  refine rhF.get (pc := 1) (rhR _) dX7_count_1 fl_X7_15 h1 rfl ?_
  refine rhF.iload_n (pc := 4) dX7_count_4 1 rfl ?_
  refine rhF.ck (fun h2 => ?_)
  refine rhF.ck (fun h3 => ?_)
  refine rhF.iald (pc := 5) dX7_count_5 h2 h3 ?_
  refine rhF.aload_n (pc := 6) dX7_count_6 0 rfl ?_
  refine rhF.get (pc := 7) (rhR _) dX7_count_7 fl_X7_9 h1 rfl ?_
  refine rhF.iload_n (pc := 10) dX7_count_10 1 rfl ?_
  refine rhF.ck (fun h4 => ?_)
  refine rhF.ck (fun h5 => ?_)
  refine rhF.iald (pc := 11) dX7_count_11 h4 h5 ?_
  refine rhF.isub (pc := 12) dX7_count_12 ?_
  exact rhF.zret (pc := 13) dX7_count_13 rfl rfl rfl
theorem c_X7_count (E : rhE) (Γ : rhG) (M : rhM) (v0 : Nat) (v1 : Int32) : ∀ a, f_X7_count Γ M v0 v1 = some a → rhC E 1 yX7_count cX7_count 2 (some .int) [rhR v0, rhI v1] Γ M ((rhe0I Γ M) a) := rhF.met (by decide +kernel) (Nat.le_of_ble_eq_true rfl) (b_X7_count v0 v1)
def f_X7_houseAt (Γ : rhG) (M : rhM) (v0 : Nat) (v1 : Int32) (v2 : Int32) : Option (Int32) :=
  rhck (Γ.2.2.1 v0 = 8) <|
  rhck (Γ.2.2.1 (M.2.2 v0 2) = 15) <|
  rhck (0 ≤ (v1).toInt ∧ (v1).toInt < (Γ.2.2.2 (M.2.2 v0 2) : Nat)) <|
  (f_X7_digitOf Γ M (M.2.1 v0 0) ((M.1 (M.2.2 v0 2) v1.toNatClampNeg) + v2)).bind fun r4 =>
  some r4
set_option maxHeartbeats 4000000 in
set_option maxRecDepth 100000 in
theorem b_X7_houseAt {E : rhE} {Γ : rhG} {M : rhM} : ∀ (v0 : Nat) (v1 : Int32) (v2 : Int32), rhF E 5 3 yX7_houseAt cX7_houseAt (some .int) Γ (rhe0I Γ M) (f_X7_houseAt Γ M v0 v1 v2) 0 [(0, rhR v0), (1, rhI v1), (2, rhI v2)] [] Γ M := by
  intro v0 v1 v2
  rw [f_X7_houseAt]
  refine rhF.aload_n (pc := 0) dX7_houseAt_0 0 rfl ?_
  refine rhF.ck (fun h1 => ?_)
  refine rhF.get (pc := 1) (rhJ _) dX7_houseAt_1 fl_X7_39 h1 rfl ?_
  refine rhF.aload_n (pc := 4) dX7_houseAt_4 0 rfl ?_
  refine rhF.get (pc := 5) (rhR _) dX7_houseAt_5 fl_X7_9 h1 rfl ?_
  refine rhF.iload_n (pc := 8) dX7_houseAt_8 1 rfl ?_
  refine rhF.ck (fun h2 => ?_)
  refine rhF.ck (fun h3 => ?_)
  refine rhF.iald (pc := 9) dX7_houseAt_9 h2 h3 ?_
  refine rhF.iload_n (pc := 10) dX7_houseAt_10 2 rfl ?_
  refine rhF.iadd (pc := 11) dX7_houseAt_11 ?_
  refine rhF.callS (pc := 12) (embc := rhe0I _ _) [rhJ _, rhI _] dX7_houseAt_12 ml_X7_59 ms_X7_digitOf (c_X7_digitOf _ _ _ _ _) (by decide) (by decide) rfl (Nat.le_of_ble_eq_true rfl) (fun r4 _ => ?_)
  exact rhF.zret (pc := 15) dX7_houseAt_15 rfl rfl rfl
theorem c_X7_houseAt (E : rhE) (Γ : rhG) (M : rhM) (v0 : Nat) (v1 : Int32) (v2 : Int32) : ∀ a, f_X7_houseAt Γ M v0 v1 v2 = some a → rhC E 5 yX7_houseAt cX7_houseAt 3 (some .int) [rhR v0, rhI v1, rhI v2] Γ M ((rhe0I Γ M) a) := rhF.met (by decide +kernel) (Nat.le_of_ble_eq_true rfl) (b_X7_houseAt v0 v1 v2)
def f_X7_railOf_2 (Γ : rhG) (M : rhM) : Nat → Nat → Int32 → Int32 → Option (Int32)
  | 0, _, _, _ => none
  | n + 1, v0, v1, v2 =>
    rhck (Γ.2.2.1 v0 = 8) <|
    if v2 < (M.1 v0 1) then
      (rhck (Γ.2.2.1 (M.2.2 v0 4) = 15) <|
      rhck (0 ≤ (v2).toInt ∧ (v2).toInt < (Γ.2.2.2 (M.2.2 v0 4) : Nat)) <|
      if ((rhus (M.1 (M.2.2 v0 4) v2.toNatClampNeg) v1) &&& 1) = 0 then
        (let x6 : Int32 := v2 + 1
        f_X7_railOf_2 Γ M n v0 v1 x6)
      else
        some v2)
    else
      some ((-1))
def f_X7_railOf (Γ : rhG) (M : rhM) (v0 : Nat) (v1 : Int32) : Option (Int32) :=
  f_X7_railOf_2 Γ M rhFU v0 v1 0
set_option maxHeartbeats 4000000 in
set_option maxRecDepth 100000 in
theorem b_X7_railOf_2 {E : rhE} {Γ : rhG} {M : rhM} : ∀ (n : Nat) (v0 : Nat) (v1 : Int32) (v2 : Int32), rhF E 1 3 yX7_railOf cX7_railOf (some .int) Γ (rhe0I Γ M) (f_X7_railOf_2 Γ M n v0 v1 v2) 2 [(0, rhR v0), (1, rhI v1), (2, rhI v2)] [] Γ M := by
  intro n
  induction n with
  | zero => intro v0 v1 v2; rw [f_X7_railOf_2]; exact rhF.nope
  | succ n ih =>
    intro v0 v1 v2
    rw [f_X7_railOf_2]
    refine rhF.iload_n (pc := 2) dX7_railOf_2 2 rfl ?_
    refine rhF.aload_n (pc := 3) dX7_railOf_3 0 rfl ?_
    refine rhF.ck (fun h1 => ?_)
    refine rhF.get (pc := 4) (rhI _) dX7_railOf_4 fl_X7_49 h1 rfl ?_
    refine rhF.icmp_ge (pc := 7) 31 dX7_railOf_7 (by decide) (fun h2 => ?_) (fun h2 => ?_)
    · refine rhF.aload_n (pc := 10) dX7_railOf_10 0 rfl ?_
      refine rhF.get (pc := 11) (rhR _) dX7_railOf_11 fl_X7_18 h1 rfl ?_
      refine rhF.iload_n (pc := 14) dX7_railOf_14 2 rfl ?_
      refine rhF.ck (fun h3 => ?_)
      refine rhF.ck (fun h4 => ?_)
      refine rhF.iald (pc := 15) dX7_railOf_15 h3 h4 ?_
      refine rhF.iload_n (pc := 16) dX7_railOf_16 1 rfl ?_
      refine rhF.iushr (pc := 17) dX7_railOf_17 ?_
      refine rhF.iconst (pc := 18) (v := 1) dX7_railOf_18 (by decide) ?_
      refine rhF.iand (pc := 19) dX7_railOf_19 ?_
      refine rhF.if_eq (pc := 20) 25 dX7_railOf_20 (by decide) (fun h5 => ?_) (fun h5 => ?_)
      · refine rhF.iinc (pc := 25) (L' := [(2, rhI _), (0, rhR _), (1, rhI _)]) dX7_railOf_25 2 rfl rfl (by decide) rfl ?_
        refine rhF.goto (pc := 28) 2 dX7_railOf_28 (by decide) ?_
        refine rhF.sub [1, 2, 0] rfl ?_
        exact ih _ _ _
      · refine rhF.iload_n (pc := 23) dX7_railOf_23 2 rfl ?_
        exact rhF.zret (pc := 24) dX7_railOf_24 rfl rfl rfl
    · refine rhF.iconst (pc := 31) (v := (-1)) dX7_railOf_31 (by decide) ?_
      exact rhF.zret (pc := 32) dX7_railOf_32 rfl rfl rfl
set_option maxHeartbeats 4000000 in
set_option maxRecDepth 100000 in
theorem b_X7_railOf {E : rhE} {Γ : rhG} {M : rhM} : ∀ (v0 : Nat) (v1 : Int32), rhF E 1 3 yX7_railOf cX7_railOf (some .int) Γ (rhe0I Γ M) (f_X7_railOf Γ M v0 v1) 0 [(0, rhR v0), (1, rhI v1)] [] Γ M := by
  intro v0 v1
  rw [f_X7_railOf]
  refine rhF.iconst (pc := 0) (v := 0) dX7_railOf_0 (by decide) ?_
  refine rhF.istore_n (pc := 1) (L' := [(2, rhI _), (0, rhR _), (1, rhI _)]) dX7_railOf_1 (by decide) rfl ?_
  refine rhF.sub [1, 2, 0] rfl ?_
  exact (b_X7_railOf_2 rhFU) _ _ _
theorem c_X7_railOf (E : rhE) (Γ : rhG) (M : rhM) (v0 : Nat) (v1 : Int32) : ∀ a, f_X7_railOf Γ M v0 v1 = some a → rhC E 1 yX7_railOf cX7_railOf 3 (some .int) [rhR v0, rhI v1] Γ M ((rhe0I Γ M) a) := rhF.met (by decide +kernel) (Nat.le_of_ble_eq_true rfl) (b_X7_railOf v0 v1)
def f_X7_aheadOf_18 (Γ : rhG) (M : rhM) : Nat → Nat → Int32 → Int32 → Int32 → Int32 → Option (Int32)
  | 0, _, _, _, _, _ => none
  | n + 1, v0, v1, v2, v3, v4 =>
    rhck (Γ.2.2.1 v0 = 8) <|
    (f_X7_count Γ M v0 v2).bind fun r5 =>
    if v4 < r5 then
      ((f_X7_houseAt Γ M v0 v2 v4).bind fun r7 =>
      if r7 = v1 then
        (some v3)
      else
        let x9 : Int32 := v3 + 1
        let x10 : Int32 := v4 + 1
        f_X7_aheadOf_18 Γ M n v0 v1 v2 x9 x10)
    else
      some v3
def f_X7_aheadOf (Γ : rhG) (M : rhM) (v0 : Nat) (v1 : Int32) : Option (Int32) :=
  rhck (Γ.2.2.1 v0 = 8) <|
  (f_X7_railOf Γ M v0 v1).bind fun r2 =>
  if r2 = ((-1)) then
    (some ((-1)))
  else
    f_X7_aheadOf_18 Γ M rhFU v0 v1 r2 0 0
set_option maxHeartbeats 4000000 in
set_option maxRecDepth 100000 in
theorem b_X7_aheadOf_18 {E : rhE} {Γ : rhG} {M : rhM} : ∀ (n : Nat) (v0 : Nat) (v1 : Int32) (v2 : Int32) (v3 : Int32) (v4 : Int32), rhF E 6 5 yX7_aheadOf cX7_aheadOf (some .int) Γ (rhe0I Γ M) (f_X7_aheadOf_18 Γ M n v0 v1 v2 v3 v4) 18 [(0, rhR v0), (1, rhI v1), (2, rhI v2), (3, rhI v3), (4, rhI v4)] [] Γ M := by
  intro n
  induction n with
  | zero => intro v0 v1 v2 v3 v4; rw [f_X7_aheadOf_18]; exact rhF.nope
  | succ n ih =>
    intro v0 v1 v2 v3 v4
    rw [f_X7_aheadOf_18]
    refine rhF.iload (pc := 18) dX7_aheadOf_18 4 rfl ?_
    refine rhF.aload_n (pc := 20) dX7_aheadOf_20 0 rfl ?_
    refine rhF.iload_n (pc := 21) dX7_aheadOf_21 2 rfl ?_
    refine rhF.ck (fun h4 => ?_)
    refine rhF.callV (pc := 22) (ci := 7) (embc := rhe0I _ _) [rhI _] dX7_aheadOf_22 ml_X7_67 mv_X7_count ⟨_, rfl, rfl⟩ h4 (c_X7_count _ _ _ _ _) (by decide) (by decide) rfl (Nat.le_of_ble_eq_true rfl) (fun r5 _ => ?_)
    refine rhF.icmp_ge (pc := 25) 48 dX7_aheadOf_25 (by decide) (fun h6 => ?_) (fun h6 => ?_)
    · refine rhF.aload_n (pc := 28) dX7_aheadOf_28 0 rfl ?_
      refine rhF.iload_n (pc := 29) dX7_aheadOf_29 2 rfl ?_
      refine rhF.iload (pc := 30) dX7_aheadOf_30 4 rfl ?_
      refine rhF.callV (pc := 32) (ci := 7) (embc := rhe0I _ _) [rhI _, rhI _] dX7_aheadOf_32 ml_X7_70 mv_X7_houseAt ⟨_, rfl, rfl⟩ h4 (c_X7_houseAt _ _ _ _ _ _) (by decide) (by decide) rfl (Nat.le_of_ble_eq_true rfl) (fun r7 _ => ?_)
      refine rhF.iload_n (pc := 35) dX7_aheadOf_35 1 rfl ?_
      refine rhF.icmp_eq (pc := 36) 48 dX7_aheadOf_36 (by decide) (fun h8 => ?_) (fun h8 => ?_)
      · refine rhF.iload_n (pc := 48) dX7_aheadOf_48 3 rfl ?_
        exact rhF.zret (pc := 49) dX7_aheadOf_49 rfl rfl rfl
      · refine rhF.iinc (pc := 39) (L' := [(3, rhI _), (0, rhR _), (1, rhI _), (2, rhI _), (4, rhI _)]) dX7_aheadOf_39 3 rfl rfl (by decide) rfl ?_
        refine rhF.iinc (pc := 42) (L' := [(4, rhI _), (3, rhI _), (0, rhR _), (1, rhI _), (2, rhI _)]) dX7_aheadOf_42 4 rfl rfl (by decide) rfl ?_
        refine rhF.goto (pc := 45) 18 dX7_aheadOf_45 (by decide) ?_
        refine rhF.sub [2, 3, 4, 1, 0] rfl ?_
        exact ih _ _ _ _ _
    · refine rhF.iload_n (pc := 48) dX7_aheadOf_48 3 rfl ?_
      exact rhF.zret (pc := 49) dX7_aheadOf_49 rfl rfl rfl
set_option maxHeartbeats 4000000 in
set_option maxRecDepth 100000 in
theorem b_X7_aheadOf {E : rhE} {Γ : rhG} {M : rhM} : ∀ (v0 : Nat) (v1 : Int32), rhF E 6 5 yX7_aheadOf cX7_aheadOf (some .int) Γ (rhe0I Γ M) (f_X7_aheadOf Γ M v0 v1) 0 [(0, rhR v0), (1, rhI v1)] [] Γ M := by
  intro v0 v1
  rw [f_X7_aheadOf]
  refine rhF.aload_n (pc := 0) dX7_aheadOf_0 0 rfl ?_
  refine rhF.iload_n (pc := 1) dX7_aheadOf_1 1 rfl ?_
  refine rhF.ck (fun h1 => ?_)
  refine rhF.callV (pc := 2) (ci := 7) (embc := rhe0I _ _) [rhI _] dX7_aheadOf_2 ml_X7_63 mv_X7_railOf ⟨_, rfl, rfl⟩ h1 (c_X7_railOf _ _ _ _ _) (by decide) (by decide) rfl (Nat.le_of_ble_eq_true rfl) (fun r2 _ => ?_)
  refine rhF.istore_n (pc := 5) (L' := [(2, rhI _), (0, rhR _), (1, rhI _)]) dX7_aheadOf_5 (by decide) rfl ?_
  refine rhF.iload_n (pc := 6) dX7_aheadOf_6 0 rfl ?_
  refine rhF.iconst (pc := 7) (v := (-1)) dX7_aheadOf_7 (by decide) ?_
  refine rhF.icmp_ne (pc := 8) 13 dX7_aheadOf_8 (by decide) (fun h3 => ?_) (fun h3 => ?_)
  · refine rhF.iconst (pc := 11) (v := (-1)) dX7_aheadOf_11 (by decide) ?_
    exact rhF.zret (pc := 12) dX7_aheadOf_12 rfl rfl rfl
  · refine rhF.iconst (pc := 13) (v := 0) dX7_aheadOf_13 (by decide) ?_
    refine rhF.istore_n (pc := 14) (L' := [(3, rhI _), (2, rhI _), (0, rhR _), (1, rhI _)]) dX7_aheadOf_14 (by decide) rfl ?_
    refine rhF.iconst (pc := 15) (v := 0) dX7_aheadOf_15 (by decide) ?_
    refine rhF.istore (pc := 16) (L' := [(4, rhI _), (3, rhI _), (2, rhI _), (0, rhR _), (1, rhI _)]) dX7_aheadOf_16 (by decide) rfl ?_
    refine rhF.sub [3, 4, 2, 1, 0] rfl ?_
    exact (b_X7_aheadOf_18 rhFU) _ _ _ _ _
theorem c_X7_aheadOf (E : rhE) (Γ : rhG) (M : rhM) (v0 : Nat) (v1 : Int32) : ∀ a, f_X7_aheadOf Γ M v0 v1 = some a → rhC E 6 yX7_aheadOf cX7_aheadOf 5 (some .int) [rhR v0, rhI v1] Γ M ((rhe0I Γ M) a) := rhF.met (by decide +kernel) (Nat.le_of_ble_eq_true rfl) (b_X7_aheadOf v0 v1)
def f_X7_last_12 (Γ : rhG) (M : rhM) : Nat → Nat → Int32 → Int32 → Int32 → Option (Int32)
  | 0, _, _, _, _ => none
  | n + 1, v0, v1, v3, v4 =>
    rhck (Γ.2.2.1 v0 = 8) <|
    rhck (Γ.2.2.1 (M.2.2 v0 3) = 15) <|
    rhck (0 ≤ (v1).toInt ∧ (v1).toInt < (Γ.2.2.2 (M.2.2 v0 3) : Nat)) <|
    if v4 < (M.1 (M.2.2 v0 3) v1.toNatClampNeg) then
      ((f_X7_digitOf Γ M (M.2.1 v0 0) v4).bind fun r9 =>
      let x10 := v3 ||| (1 <<< (r9 &&& 31))
      let x11 : Int32 := v4 + 1
      f_X7_last_12 Γ M n v0 v1 x10 x11)
    else
      some v3
def f_X7_last (Γ : rhG) (M : rhM) (v0 : Nat) (v1 : Int32) (v2 : Int32) : Option (Int32) :=
  rhck (Γ.2.2.1 v0 = 8) <|
  rhck (Γ.2.2.1 (M.2.2 v0 3) = 15) <|
  rhck (0 ≤ (v1).toInt ∧ (v1).toInt < (Γ.2.2.2 (M.2.2 v0 3) : Nat)) <|
  let x4 := (M.1 (M.2.2 v0 3) v1.toNatClampNeg) - v2
  f_X7_last_12 Γ M rhFU v0 v1 0 x4
set_option maxHeartbeats 4000000 in
set_option maxRecDepth 100000 in
theorem b_X7_last_12 {E : rhE} {Γ : rhG} {M : rhM} : ∀ (n : Nat) (v0 : Nat) (v1 : Int32) (v3 : Int32) (v4 : Int32), rhF E 5 5 yX7_last cX7_last (some .int) Γ (rhe0I Γ M) (f_X7_last_12 Γ M n v0 v1 v3 v4) 12 [(0, rhR v0), (1, rhI v1), (3, rhI v3), (4, rhI v4)] [] Γ M := by
  intro n
  induction n with
  | zero => intro v0 v1 v3 v4; rw [f_X7_last_12]; exact rhF.nope
  | succ n ih =>
    intro v0 v1 v3 v4
    rw [f_X7_last_12]
    refine rhF.iload (pc := 12) dX7_last_12 3 rfl ?_
    refine rhF.aload_n (pc := 14) dX7_last_14 0 rfl ?_
    refine rhF.ck (fun h5 => ?_)
    refine rhF.get (pc := 15) (rhR _) dX7_last_15 fl_X7_15 h5 rfl ?_
    refine rhF.iload_n (pc := 18) dX7_last_18 1 rfl ?_
    refine rhF.ck (fun h6 => ?_)
    refine rhF.ck (fun h7 => ?_)
    refine rhF.iald (pc := 19) dX7_last_19 h6 h7 ?_
    refine rhF.icmp_ge (pc := 20) 43 dX7_last_20 (by decide) (fun h8 => ?_) (fun h8 => ?_)
    · refine rhF.iload_n (pc := 23) dX7_last_23 2 rfl ?_
      refine rhF.iconst (pc := 24) (v := 1) dX7_last_24 (by decide) ?_
      refine rhF.aload_n (pc := 25) dX7_last_25 0 rfl ?_
      refine rhF.get (pc := 26) (rhJ _) dX7_last_26 fl_X7_39 h5 rfl ?_
      refine rhF.iload (pc := 29) dX7_last_29 3 rfl ?_
      refine rhF.callS (pc := 31) (embc := rhe0I _ _) [rhJ _, rhI _] dX7_last_31 ml_X7_59 ms_X7_digitOf (c_X7_digitOf _ _ _ _ _) (by decide) (by decide) rfl (Nat.le_of_ble_eq_true rfl) (fun r9 _ => ?_)
      refine rhF.ishl (pc := 34) dX7_last_34 ?_
      refine rhF.ior (pc := 35) dX7_last_35 ?_
      refine rhF.istore_n (pc := 36) (L' := [(3, rhI _), (0, rhR _), (1, rhI _), (4, rhI _)]) dX7_last_36 (by decide) rfl ?_
      refine rhF.iinc (pc := 37) (L' := [(4, rhI _), (3, rhI _), (0, rhR _), (1, rhI _)]) dX7_last_37 3 rfl rfl (by decide) rfl ?_
      refine rhF.goto (pc := 40) 12 dX7_last_40 (by decide) ?_
      refine rhF.sub [2, 3, 1, 0] rfl ?_
      exact ih _ _ _ _
    · refine rhF.iload_n (pc := 43) dX7_last_43 2 rfl ?_
      exact rhF.zret (pc := 44) dX7_last_44 rfl rfl rfl
set_option maxHeartbeats 4000000 in
set_option maxRecDepth 100000 in
theorem b_X7_last {E : rhE} {Γ : rhG} {M : rhM} : ∀ (v0 : Nat) (v1 : Int32) (v2 : Int32), rhF E 5 5 yX7_last cX7_last (some .int) Γ (rhe0I Γ M) (f_X7_last Γ M v0 v1 v2) 0 [(0, rhR v0), (1, rhI v1), (2, rhI v2)] [] Γ M := by
  intro v0 v1 v2
  rw [f_X7_last]
  refine rhF.iconst (pc := 0) (v := 0) dX7_last_0 (by decide) ?_
  refine rhF.istore_n (pc := 1) (L' := [(3, rhI _), (0, rhR _), (1, rhI _), (2, rhI _)]) dX7_last_1 (by decide) rfl ?_
  refine rhF.aload_n (pc := 2) dX7_last_2 1 rfl ?_
  refine rhF.ck (fun h1 => ?_)
  refine rhF.get (pc := 3) (rhR _) dX7_last_3 fl_X7_15 h1 rfl ?_
  refine rhF.iload_n (pc := 6) dX7_last_6 2 rfl ?_
  refine rhF.ck (fun h2 => ?_)
  refine rhF.ck (fun h3 => ?_)
  refine rhF.iald (pc := 7) dX7_last_7 h2 h3 ?_
  refine rhF.iload_n (pc := 8) dX7_last_8 3 rfl ?_
  refine rhF.isub (pc := 9) dX7_last_9 ?_
  refine rhF.istore (pc := 10) (L' := [(4, rhI _), (3, rhI _), (0, rhR _), (1, rhI _), (2, rhI _)]) dX7_last_10 (by decide) rfl ?_
  refine rhF.sub [2, 3, 1, 0] rfl ?_
  exact (b_X7_last_12 rhFU) _ _ _ _
theorem c_X7_last (E : rhE) (Γ : rhG) (M : rhM) (v0 : Nat) (v1 : Int32) (v2 : Int32) : ∀ a, f_X7_last Γ M v0 v1 v2 = some a → rhC E 5 yX7_last cX7_last 5 (some .int) [rhR v0, rhI v1, rhI v2] Γ M ((rhe0I Γ M) a) := rhF.met (by decide +kernel) (Nat.le_of_ble_eq_true rfl) (b_X7_last v0 v1 v2)
def f_X9_asks (Γ : rhG) (M : rhM) (v0 : Nat) (v1 : Int32) (v2 : Int32) (v3 : Int32) (v4 : Int32) : Option (Int32 × rhM) :=
  rhck (Γ.2.2.1 v0 = 10) <|
  (f_X9_roomBeside Γ M v0 v3 v4).bind fun r2 =>
  rhck (Γ.2.2.1 (M.2.2 v0 8) = 15) <|
  rhck (0 ≤ (v2).toInt ∧ (v2).toInt < (Γ.2.2.2 (M.2.2 v0 8) : Nat)) <|
  rhck (Γ.2.2.1 (M.2.2 v0 7) = 15) <|
  rhck (0 ≤ (v2).toInt ∧ (v2).toInt < (Γ.2.2.2 (M.2.2 v0 7) : Nat)) <|
  rhck (Γ.2.2.1 (M.2.2 v0 11) = 2) <|
  (f_X1_comesTo Γ M (M.2.2 v0 11) v1 v2 v3 r2 (M.1 (M.2.2 v0 8) v2.toNatClampNeg) (M.1 (M.2.2 v0 7) v2.toNatClampNeg)).bind fun r8 =>
  some ((r8.1, r8.2))
set_option maxHeartbeats 4000000 in
set_option maxRecDepth 100000 in
theorem b_X9_asks {E : rhE} {Γ : rhG} : ∀ (M : rhM) (v0 : Nat) (v1 : Int32) (v2 : Int32) (v3 : Int32) (v4 : Int32), rhF E 6 5 yX9_asks cX9_asks (some .int) Γ (rhe1I Γ) (f_X9_asks Γ M v0 v1 v2 v3 v4) 0 [(0, rhR v0), (1, rhI v1), (2, rhI v2), (3, rhI v3), (4, rhI v4)] [] Γ M := by
  intro M v0 v1 v2 v3 v4
  rw [f_X9_asks]
  refine rhF.aload_n (pc := 0) dX9_asks_0 0 rfl ?_
  refine rhF.ck (fun h1 => ?_)
  refine rhF.get (pc := 1) (rhR _) dX9_asks_1 fl_X9_31 h1 rfl ?_
  refine rhF.iload_n (pc := 4) dX9_asks_4 1 rfl ?_
  refine rhF.iload_n (pc := 5) dX9_asks_5 2 rfl ?_
  refine rhF.iload_n (pc := 6) dX9_asks_6 3 rfl ?_
  refine rhF.aload_n (pc := 7) dX9_asks_7 0 rfl ?_
  refine rhF.iload_n (pc := 8) dX9_asks_8 3 rfl ?_
  refine rhF.iload (pc := 9) dX9_asks_9 4 rfl ?_
  refine rhF.callV (pc := 11) (ci := 9) (embc := rhe0I _ _) [rhI _, rhI _] dX9_asks_11 ml_X9_59 mv_X9_roomBeside ⟨_, rfl, rfl⟩ h1 (c_X9_roomBeside _ _ _ _ _ _) (by decide) (by decide) rfl (Nat.le_of_ble_eq_true rfl) (fun r2 _ => ?_)
  refine rhF.aload_n (pc := 14) dX9_asks_14 0 rfl ?_
  refine rhF.get (pc := 15) (rhR _) dX9_asks_15 fl_X9_18 h1 rfl ?_
  refine rhF.iload_n (pc := 18) dX9_asks_18 2 rfl ?_
  refine rhF.ck (fun h3 => ?_)
  refine rhF.ck (fun h4 => ?_)
  refine rhF.iald (pc := 19) dX9_asks_19 h3 h4 ?_
  refine rhF.aload_n (pc := 20) dX9_asks_20 0 rfl ?_
  refine rhF.get (pc := 21) (rhR _) dX9_asks_21 fl_X9_15 h1 rfl ?_
  refine rhF.iload_n (pc := 24) dX9_asks_24 2 rfl ?_
  refine rhF.ck (fun h5 => ?_)
  refine rhF.ck (fun h6 => ?_)
  refine rhF.iald (pc := 25) dX9_asks_25 h5 h6 ?_
  refine rhF.ck (fun h7 => ?_)
  refine rhF.callV (pc := 26) (ci := 1) (embc := rhe1I _) [rhI _, rhI _, rhI _, rhI _, rhI _, rhI _] dX9_asks_26 ml_X9_63 mv_X1_comesTo ⟨_, rfl, rfl⟩ h7 (c_X1_comesTo _ _ _ _ _ _ _ _ _ _) (by decide) (by decide) rfl (Nat.le_of_ble_eq_true rfl) (fun r8 _ => ?_)
  exact rhF.zret (pc := 29) dX9_asks_29 rfl rfl rfl
theorem c_X9_asks (E : rhE) (Γ : rhG) (M : rhM) (v0 : Nat) (v1 : Int32) (v2 : Int32) (v3 : Int32) (v4 : Int32) : ∀ a, f_X9_asks Γ M v0 v1 v2 v3 v4 = some a → rhC E 6 yX9_asks cX9_asks 5 (some .int) [rhR v0, rhI v1, rhI v2, rhI v3, rhI v4] Γ M ((rhe1I Γ) a) := rhF.met (by decide +kernel) (Nat.le_of_ble_eq_true rfl) (b_X9_asks M v0 v1 v2 v3 v4)
def f_X9_init (Γ : rhG) (M : rhM) (v0 : Nat) : Option (rhG × rhM) :=
  rhck (Γ.2.2.1 v0 = 10) <|
  rhck (0 ≤ (5 : Int32).toInt ∧ (5 : Int32).toInt ≤ 67108864) <|
  let M4 := rhmn M (nu (Γ.1 + 1))
  let G3 := rhgn Γ 15 (5 : Int32).toNatClampNeg (5 : Int32).toNatClampNeg
  rhck (G3.2.2.1 v0 = 10) <|
  let M6 := rhsr M4 v0 6 ((nu (Γ.1 + 1)))
  rhck (0 ≤ (256 : Int32).toInt ∧ (256 : Int32).toInt ≤ 67108864) <|
  let M9 := rhmn M6 (nu (G3.1 + 1))
  let G8 := rhgn G3 15 (256 : Int32).toNatClampNeg (256 : Int32).toNatClampNeg
  rhck (G8.2.2.1 v0 = 10) <|
  let M11 := rhsr M9 v0 7 ((nu (G3.1 + 1)))
  rhck (0 ≤ (256 : Int32).toInt ∧ (256 : Int32).toInt ≤ 67108864) <|
  let M14 := rhmn M11 (nu (G8.1 + 1))
  let G13 := rhgn G8 15 (256 : Int32).toNatClampNeg (256 : Int32).toNatClampNeg
  rhck (G13.2.2.1 v0 = 10) <|
  let M16 := rhsr M14 v0 8 ((nu (G8.1 + 1)))
  rhck (0 ≤ (64 : Int32).toInt ∧ (64 : Int32).toInt ≤ 67108864) <|
  let M19 := rhmn M16 (nu (G13.1 + 1))
  let G18 := rhgn G13 15 (64 : Int32).toNatClampNeg (64 : Int32).toNatClampNeg
  rhck (G18.2.2.1 v0 = 10) <|
  let M21 := rhsr M19 v0 9 ((nu (G13.1 + 1)))
  rhck (0 ≤ (64 : Int32).toInt ∧ (64 : Int32).toInt ≤ 67108864) <|
  let M24 := rhmn M21 (nu (G18.1 + 1))
  let G23 := rhgn G18 17 (64 : Int32).toNatClampNeg (64 : Int32).toNatClampNeg
  rhck (G23.2.2.1 v0 = 10) <|
  let M26 := rhsr M24 v0 10 ((nu (G18.1 + 1)))
  let M28 := rhmn M26 (nu (G23.1 + 1))
  let G27 := rhgn G23 2 0 6
  rhck (G27.2.2.1 ((nu (G23.1 + 1))) = 2) <|
  (f_X1_init G27 M28 ((nu (G23.1 + 1)))).bind fun r30 =>
  rhck (r30.1.2.2.1 v0 = 10) <|
  let M32 := rhsr r30.2 v0 11 ((nu (G23.1 + 1)))
  (f_X9_clear r30.1 M32 v0).bind fun r33 =>
  some (r30.1, r33)
set_option maxHeartbeats 4000000 in
set_option maxRecDepth 100000 in
theorem b_X9_init {E : rhE} {Γ0 : rhG} : ∀ (Γ : rhG) (M : rhM) (v0 : Nat), rhF E 6 1 yX9_init cX9_init none Γ0 rhe2U (f_X9_init Γ M v0) 0 [(0, rhR v0)] [] Γ M := by
  intro Γ M v0
  rw [f_X9_init]
  refine rhF.aload_n (pc := 0) dX9_init_0 0 rfl ?_
  refine rhF.ck (fun h1 => ?_)
  refine rhF.objInit (pc := 1) dX9_init_1 oi_X9_3 (fun z => absurd (h1.symm.trans z) (by decide)) (by decide) (Nat.le_of_ble_eq_true rfl) ?_
  refine rhF.aload_n (pc := 4) dX9_init_4 0 rfl ?_
  refine rhF.iconst (pc := 5) (v := 5) dX9_init_5 (by decide) ?_
  refine rhF.ck (fun h2 => ?_)
  refine rhF.newI (pc := 6) dX9_init_6 ac_int h2 ?_
  refine rhF.ck (fun h5 => ?_)
  refine rhF.putr (pc := 8) dX9_init_8 fl_X9_9 h5 (fun q hq => by cases hq; exact Or.inr ⟨rfl, rfl, rfl⟩) (Or.inr ⟨_, rfl⟩) (fun _ => rfl) ?_
  refine rhF.aload_n (pc := 11) dX9_init_11 0 rfl ?_
  refine rhF.sipush (pc := 12) (v := 256) dX9_init_12 (by decide) ?_
  refine rhF.ck (fun h7 => ?_)
  refine rhF.newI (pc := 15) dX9_init_15 ac_int h7 ?_
  refine rhF.ck (fun h10 => ?_)
  refine rhF.putr (pc := 17) dX9_init_17 fl_X9_15 h10 (fun q hq => by cases hq; exact Or.inr ⟨rfl, rfl, rfl⟩) (Or.inr ⟨_, rfl⟩) (fun _ => rfl) ?_
  refine rhF.aload_n (pc := 20) dX9_init_20 0 rfl ?_
  refine rhF.sipush (pc := 21) (v := 256) dX9_init_21 (by decide) ?_
  refine rhF.ck (fun h12 => ?_)
  refine rhF.newI (pc := 24) dX9_init_24 ac_int h12 ?_
  refine rhF.ck (fun h15 => ?_)
  refine rhF.putr (pc := 26) dX9_init_26 fl_X9_18 h15 (fun q hq => by cases hq; exact Or.inr ⟨rfl, rfl, rfl⟩) (Or.inr ⟨_, rfl⟩) (fun _ => rfl) ?_
  refine rhF.aload_n (pc := 29) dX9_init_29 0 rfl ?_
  refine rhF.bipush (pc := 30) (v := 64) dX9_init_30 (by decide) ?_
  refine rhF.ck (fun h17 => ?_)
  refine rhF.newI (pc := 32) dX9_init_32 ac_int h17 ?_
  refine rhF.ck (fun h20 => ?_)
  refine rhF.putr (pc := 34) dX9_init_34 fl_X9_21 h20 (fun q hq => by cases hq; exact Or.inr ⟨rfl, rfl, rfl⟩) (Or.inr ⟨_, rfl⟩) (fun _ => rfl) ?_
  refine rhF.aload_n (pc := 37) dX9_init_37 0 rfl ?_
  refine rhF.bipush (pc := 38) (v := 64) dX9_init_38 (by decide) ?_
  refine rhF.ck (fun h22 => ?_)
  refine rhF.newZ (pc := 40) dX9_init_40 ac_boolean h22 ?_
  refine rhF.ck (fun h25 => ?_)
  refine rhF.putr (pc := 42) dX9_init_42 fl_X9_24 h25 (fun q hq => by cases hq; exact Or.inr ⟨rfl, rfl, rfl⟩) (Or.inr ⟨_, rfl⟩) (fun _ => rfl) ?_
  refine rhF.aload_n (pc := 45) dX9_init_45 0 rfl ?_
  refine rhF.new (pc := 46) (ci := 1) dX9_init_46 nw_X9_28 ?_
  refine rhF.dupr (pc := 49) dX9_init_49 ?_
  refine rhF.ck (fun h29 => ?_)
  refine rhF.callIN (pc := 50) (embc := rhe2U) "RailHouses" [] dX9_init_50 (by decide +kernel) ne_X9_30 mi_X1_init (fun z => absurd (h29.symm.trans z) (by decide)) (c_X1_init _ _ _ _) (by decide) (by decide) rfl (Nat.le_of_ble_eq_true rfl) (fun r30 _ => ?_)
  refine rhF.ck (fun h31 => ?_)
  refine rhF.putr (pc := 53) dX9_init_53 fl_X9_31 h31 (fun q hq => by cases hq; exact Or.inr ⟨rfl, rfl, rfl⟩) (Or.inl ⟨_, rfl⟩) (fun _ => rfl) ?_
  refine rhF.aload_n (pc := 56) dX9_init_56 0 rfl ?_
  refine rhF.callV (pc := 57) (ci := 9) (embc := rhe1U _) [] dX9_init_57 ml_X9_35 mv_X9_clear ⟨_, rfl, rfl⟩ h31 (c_X9_clear _ _ _ _) (by decide) (by decide) rfl (Nat.le_of_ble_eq_true rfl) (fun r33 _ => ?_)
  exact rhF.vret (pc := 60) dX9_init_60 rfl rfl
theorem c_X9_init (E : rhE) (Γ : rhG) (M : rhM) (v0 : Nat) : ∀ a, f_X9_init Γ M v0 = some a → rhC E 6 yX9_init cX9_init 1 none [rhR v0] Γ M (rhe2U a) := rhF.met (by decide +kernel) (Nat.le_of_ble_eq_true rfl) (b_X9_init (Γ0 := Γ) Γ M v0)
def f_X11_about (Γ : rhG) (M : rhM) (v0 : Nat) (v1 : Int32) : Option (Int32) :=
  if v1 = 0 then
    (rhck (Γ.2.2.1 v0 = 12) <|
    rhck (Γ.2.2.1 (M.2.2 v0 3) = 10) <|
    some (M.1 (M.2.2 v0 3) 1))
  else
  if v1 = 1 then
    (rhck (Γ.2.2.1 v0 = 12) <|
    rhck (Γ.2.2.1 (M.2.2 v0 3) = 10) <|
    some (M.1 (M.2.2 v0 3) 0))
  else
  if v1 = 2 then
    (rhck (Γ.2.2.1 v0 = 12) <|
    rhck (Γ.2.2.1 (M.2.2 v0 7) = 4) <|
    some (M.1 (M.2.2 v0 7) 1))
  else
  if v1 = 3 then
    (rhck (Γ.2.2.1 v0 = 12) <|
    rhck (Γ.2.2.1 (M.2.2 v0 8) = 4) <|
    some (M.1 (M.2.2 v0 8) 1))
  else
  if v1 = 4 then
    (rhck (Γ.2.2.1 v0 = 12) <|
    some (M.1 v0 11))
  else
  if v1 = 5 then
    (rhck (Γ.2.2.1 v0 = 12) <|
    rhck (Γ.2.2.1 (M.2.2 v0 14) = 7) <|
    some (M.1 (M.2.2 v0 14) 0))
  else
  if v1 = 6 then
    (rhck (Γ.2.2.1 v0 = 12) <|
    some (M.1 v0 16))
  else
  if v1 = 7 then
    (rhck (Γ.2.2.1 v0 = 12) <|
    some (M.1 v0 1))
  else
  if v1 = 8 then
    (rhck (Γ.2.2.1 v0 = 12) <|
    rhck (Γ.2.2.1 (M.2.2 v0 7) = 4) <|
    some (M.1 (M.2.2 v0 7) 2))
  else
  if v1 = 9 then
    (rhck (Γ.2.2.1 v0 = 12) <|
    rhck (Γ.2.2.1 (M.2.2 v0 3) = 10) <|
    rhck (Γ.2.2.1 (M.2.2 (M.2.2 v0 3) 11) = 2) <|
    some (M.1 (M.2.2 (M.2.2 v0 3) 11) 0))
  else
  if v1 = 10 then
    (rhck (Γ.2.2.1 v0 = 12) <|
    rhck (Γ.2.2.1 (M.2.2 v0 9) = 4) <|
    some (M.1 (M.2.2 v0 9) 1))
  else
  some ((-1))
set_option maxHeartbeats 4000000 in
set_option maxRecDepth 100000 in
theorem b_X11_about {E : rhE} {Γ : rhG} {M : rhM} : ∀ (v0 : Nat) (v1 : Int32), rhF E 1 2 yX11_about cX11_about (some .int) Γ (rhe0I Γ M) (f_X11_about Γ M v0 v1) 0 [(0, rhR v0), (1, rhI v1)] [] Γ M := by
  intro v0 v1
  rw [f_X11_about]
  refine rhF.iload_n (pc := 0) dX11_about_0 1 rfl ?_
  refine rhF.ite (fun h1 => ?_) (fun h1 => ?_)
  · refine rhF.tsIn (pc := 1) 60 0 dX11_about_1 (by rw [h1]; decide) (by decide) rfl (by decide) ?_
    refine rhF.aload_n (pc := 60) dX11_about_60 0 rfl ?_
    refine rhF.ck (fun h2 => ?_)
    refine rhF.get (pc := 61) (rhR _) dX11_about_61 fl_X11_23 h2 rfl ?_
    refine rhF.ck (fun h3 => ?_)
    refine rhF.get (pc := 64) (rhI _) dX11_about_64 fl_X11_84 h3 rfl ?_
    exact rhF.zret (pc := 67) dX11_about_67 rfl rfl rfl
  · skip
    refine rhF.ite (fun h4 => ?_) (fun h4 => ?_)
    · refine rhF.tsIn (pc := 1) 68 1 dX11_about_1 (by rw [h4]; decide) (by decide) rfl (by decide) ?_
      refine rhF.aload_n (pc := 68) dX11_about_68 0 rfl ?_
      refine rhF.ck (fun h5 => ?_)
      refine rhF.get (pc := 69) (rhR _) dX11_about_69 fl_X11_23 h5 rfl ?_
      refine rhF.ck (fun h6 => ?_)
      refine rhF.get (pc := 72) (rhI _) dX11_about_72 fl_X11_141 h6 rfl ?_
      exact rhF.zret (pc := 75) dX11_about_75 rfl rfl rfl
    · skip
      refine rhF.ite (fun h7 => ?_) (fun h7 => ?_)
      · refine rhF.tsIn (pc := 1) 76 2 dX11_about_1 (by rw [h7]; decide) (by decide) rfl (by decide) ?_
        refine rhF.aload_n (pc := 76) dX11_about_76 0 rfl ?_
        refine rhF.ck (fun h8 => ?_)
        refine rhF.get (pc := 77) (rhR _) dX11_about_77 fl_X11_45 h8 rfl ?_
        refine rhF.ck (fun h9 => ?_)
        refine rhF.get (pc := 80) (rhI _) dX11_about_80 fl_X11_184 h9 rfl ?_
        exact rhF.zret (pc := 83) dX11_about_83 rfl rfl rfl
      · skip
        refine rhF.ite (fun h10 => ?_) (fun h10 => ?_)
        · refine rhF.tsIn (pc := 1) 84 3 dX11_about_1 (by rw [h10]; decide) (by decide) rfl (by decide) ?_
          refine rhF.aload_n (pc := 84) dX11_about_84 0 rfl ?_
          refine rhF.ck (fun h11 => ?_)
          refine rhF.get (pc := 85) (rhR _) dX11_about_85 fl_X11_49 h11 rfl ?_
          refine rhF.ck (fun h12 => ?_)
          refine rhF.get (pc := 88) (rhI _) dX11_about_88 fl_X11_184 h12 rfl ?_
          exact rhF.zret (pc := 91) dX11_about_91 rfl rfl rfl
        · skip
          refine rhF.ite (fun h13 => ?_) (fun h13 => ?_)
          · refine rhF.tsIn (pc := 1) 92 4 dX11_about_1 (by rw [h13]; decide) (by decide) rfl (by decide) ?_
            refine rhF.aload_n (pc := 92) dX11_about_92 0 rfl ?_
            refine rhF.ck (fun h14 => ?_)
            refine rhF.get (pc := 93) (rhI _) dX11_about_93 fl_X11_101 h14 rfl ?_
            exact rhF.zret (pc := 96) dX11_about_96 rfl rfl rfl
          · skip
            refine rhF.ite (fun h15 => ?_) (fun h15 => ?_)
            · refine rhF.tsIn (pc := 1) 97 5 dX11_about_1 (by rw [h15]; decide) (by decide) rfl (by decide) ?_
              refine rhF.aload_n (pc := 97) dX11_about_97 0 rfl ?_
              refine rhF.ck (fun h16 => ?_)
              refine rhF.get (pc := 98) (rhR _) dX11_about_98 fl_X11_66 h16 rfl ?_
              refine rhF.ck (fun h17 => ?_)
              refine rhF.get (pc := 101) (rhI _) dX11_about_101 fl_X11_303 h17 rfl ?_
              exact rhF.zret (pc := 104) dX11_about_104 rfl rfl rfl
            · skip
              refine rhF.ite (fun h18 => ?_) (fun h18 => ?_)
              · refine rhF.tsIn (pc := 1) 105 6 dX11_about_1 (by rw [h18]; decide) (by decide) rfl (by decide) ?_
                refine rhF.aload_n (pc := 105) dX11_about_105 0 rfl ?_
                refine rhF.ck (fun h19 => ?_)
                refine rhF.get (pc := 106) (rhI _) dX11_about_106 fl_X11_280 h19 rfl ?_
                exact rhF.zret (pc := 109) dX11_about_109 rfl rfl rfl
              · skip
                refine rhF.ite (fun h20 => ?_) (fun h20 => ?_)
                · refine rhF.tsIn (pc := 1) 110 7 dX11_about_1 (by rw [h20]; decide) (by decide) rfl (by decide) ?_
                  refine rhF.aload_n (pc := 110) dX11_about_110 0 rfl ?_
                  refine rhF.ck (fun h21 => ?_)
                  refine rhF.get (pc := 111) (rhI _) dX11_about_111 fl_X11_73 h21 rfl ?_
                  exact rhF.zret (pc := 114) dX11_about_114 rfl rfl rfl
                · skip
                  refine rhF.ite (fun h22 => ?_) (fun h22 => ?_)
                  · refine rhF.tsIn (pc := 1) 115 8 dX11_about_1 (by rw [h22]; decide) (by decide) rfl (by decide) ?_
                    refine rhF.aload_n (pc := 115) dX11_about_115 0 rfl ?_
                    refine rhF.ck (fun h23 => ?_)
                    refine rhF.get (pc := 116) (rhR _) dX11_about_116 fl_X11_45 h23 rfl ?_
                    refine rhF.ck (fun h24 => ?_)
                    refine rhF.get (pc := 119) (rhI _) dX11_about_119 fl_X11_177 h24 rfl ?_
                    exact rhF.zret (pc := 122) dX11_about_122 rfl rfl rfl
                  · skip
                    refine rhF.ite (fun h25 => ?_) (fun h25 => ?_)
                    · refine rhF.tsIn (pc := 1) 123 9 dX11_about_1 (by rw [h25]; decide) (by decide) rfl (by decide) ?_
                      refine rhF.aload_n (pc := 123) dX11_about_123 0 rfl ?_
                      refine rhF.ck (fun h26 => ?_)
                      refine rhF.get (pc := 124) (rhR _) dX11_about_124 fl_X11_23 h26 rfl ?_
                      refine rhF.ck (fun h27 => ?_)
                      refine rhF.get (pc := 127) (rhR _) dX11_about_127 fl_X11_304 h27 rfl ?_
                      refine rhF.ck (fun h28 => ?_)
                      refine rhF.get (pc := 130) (rhI _) dX11_about_130 fl_X11_308 h28 rfl ?_
                      exact rhF.zret (pc := 133) dX11_about_133 rfl rfl rfl
                    · skip
                      refine rhF.ite (fun h29 => ?_) (fun h29 => ?_)
                      · refine rhF.tsIn (pc := 1) 134 10 dX11_about_1 (by rw [h29]; decide) (by decide) rfl (by decide) ?_
                        refine rhF.aload_n (pc := 134) dX11_about_134 0 rfl ?_
                        refine rhF.ck (fun h30 => ?_)
                        refine rhF.get (pc := 135) (rhR _) dX11_about_135 fl_X11_52 h30 rfl ?_
                        refine rhF.ck (fun h31 => ?_)
                        refine rhF.get (pc := 138) (rhI _) dX11_about_138 fl_X11_184 h31 rfl ?_
                        exact rhF.zret (pc := 141) dX11_about_141 rfl rfl rfl
                      · skip
                        have zh1 := rhne h1 (n := 0) (by decide)
                        have zh4 := rhne h4 (n := 1) (by decide)
                        have zh7 := rhne h7 (n := 2) (by decide)
                        have zh10 := rhne h10 (n := 3) (by decide)
                        have zh13 := rhne h13 (n := 4) (by decide)
                        have zh15 := rhne h15 (n := 5) (by decide)
                        have zh18 := rhne h18 (n := 6) (by decide)
                        have zh20 := rhne h20 (n := 7) (by decide)
                        have zh22 := rhne h22 (n := 8) (by decide)
                        have zh25 := rhne h25 (n := 9) (by decide)
                        have zh29 := rhne h29 (n := 10) (by decide)
                        refine rhF.tsOut (pc := 1) 142 dX11_about_1 (by omega) (by decide) ?_
                        refine rhF.iconst (pc := 142) (v := (-1)) dX11_about_142 (by decide) ?_
                        exact rhF.zret (pc := 143) dX11_about_143 rfl rfl rfl
theorem c_X11_about (E : rhE) (Γ : rhG) (M : rhM) (v0 : Nat) (v1 : Int32) : ∀ a, f_X11_about Γ M v0 v1 = some a → rhC E 1 yX11_about cX11_about 2 (some .int) [rhR v0, rhI v1] Γ M ((rhe0I Γ M) a) := rhF.met (by decide +kernel) (Nat.le_of_ble_eq_true rfl) (b_X11_about v0 v1)
def f_X11_isRail (Γ : rhG) (M : rhM) (v0 : Nat) (v1 : Int32) : Option (Int32) :=
  if v1 < 0 then
    (some 0)
  else
    rhck (Γ.2.2.1 v0 = 12) <|
    rhck (Γ.2.2.1 (M.2.2 v0 3) = 10) <|
    if v1 < (M.1 (M.2.2 v0 3) 0) then
      (some 1)
    else
      some 0
set_option maxHeartbeats 4000000 in
set_option maxRecDepth 100000 in
theorem b_X11_isRail {E : rhE} {Γ : rhG} {M : rhM} : ∀ (v0 : Nat) (v1 : Int32), rhF E 1 2 yX11_isRail cX11_isRail (some .boolean) Γ (rhe0I Γ M) (f_X11_isRail Γ M v0 v1) 0 [(0, rhR v0), (1, rhI v1)] [] Γ M := by
  intro v0 v1
  rw [f_X11_isRail]
  refine rhF.iload_n (pc := 0) dX11_isRail_0 1 rfl ?_
  refine rhF.if_lt (pc := 1) 19 dX11_isRail_1 (by decide) (fun h1 => ?_) (fun h1 => ?_)
  · refine rhF.iconst (pc := 19) (v := 0) dX11_isRail_19 (by decide) ?_
    exact rhF.zret (pc := 20) dX11_isRail_20 rfl rfl rfl
  · refine rhF.iload_n (pc := 4) dX11_isRail_4 1 rfl ?_
    refine rhF.aload_n (pc := 5) dX11_isRail_5 0 rfl ?_
    refine rhF.ck (fun h2 => ?_)
    refine rhF.get (pc := 6) (rhR _) dX11_isRail_6 fl_X11_23 h2 rfl ?_
    refine rhF.ck (fun h3 => ?_)
    refine rhF.get (pc := 9) (rhI _) dX11_isRail_9 fl_X11_141 h3 rfl ?_
    refine rhF.icmp_ge (pc := 12) 19 dX11_isRail_12 (by decide) (fun h4 => ?_) (fun h4 => ?_)
    · refine rhF.iconst (pc := 15) (v := 1) dX11_isRail_15 (by decide) ?_
      refine rhF.goto (pc := 16) 20 dX11_isRail_16 (by decide) ?_
      exact rhF.zret (pc := 20) dX11_isRail_20 rfl rfl rfl
    · refine rhF.iconst (pc := 19) (v := 0) dX11_isRail_19 (by decide) ?_
      exact rhF.zret (pc := 20) dX11_isRail_20 rfl rfl rfl
theorem c_X11_isRail (E : rhE) (Γ : rhG) (M : rhM) (v0 : Nat) (v1 : Int32) : ∀ a, f_X11_isRail Γ M v0 v1 = some a → rhC E 1 yX11_isRail cX11_isRail 2 (some .boolean) [rhR v0, rhI v1] Γ M ((rhe0I Γ M) a) := rhF.met (by decide +kernel) (Nat.le_of_ble_eq_true rfl) (b_X11_isRail v0 v1)
def f_X11_areUnlikeRails (Γ : rhG) (M : rhM) (v0 : Nat) (v1 : Int32) (v2 : Int32) : Option (Int32) :=
  rhck (Γ.2.2.1 v0 = 12) <|
  (f_X11_isRail Γ M v0 v1).bind fun r2 =>
  if r2 = 0 then
    (some 0)
  else
    (f_X11_isRail Γ M v0 v2).bind fun r4 =>
    if r4 = 0 then
      (some 0)
    else
      if v1 = v2 then
        (some 0)
      else
        some 1
set_option maxHeartbeats 4000000 in
set_option maxRecDepth 100000 in
theorem b_X11_areUnlikeRails {E : rhE} {Γ : rhG} {M : rhM} : ∀ (v0 : Nat) (v1 : Int32) (v2 : Int32), rhF E 5 3 yX11_areUnlikeRails cX11_areUnlikeRails (some .boolean) Γ (rhe0I Γ M) (f_X11_areUnlikeRails Γ M v0 v1 v2) 0 [(0, rhR v0), (1, rhI v1), (2, rhI v2)] [] Γ M := by
  intro v0 v1 v2
  rw [f_X11_areUnlikeRails]
  refine rhF.aload_n (pc := 0) dX11_areUnlikeRails_0 0 rfl ?_
  refine rhF.iload_n (pc := 1) dX11_areUnlikeRails_1 1 rfl ?_
  refine rhF.ck (fun h1 => ?_)
  refine rhF.callV (pc := 2) (ci := 11) (embc := rhe0I _ _) [rhI _] dX11_areUnlikeRails_2 ml_X11_113 mv_X11_isRail ⟨_, rfl, rfl⟩ h1 (c_X11_isRail _ _ _ _ _) (by decide) (by decide) rfl (Nat.le_of_ble_eq_true rfl) (fun r2 _ => ?_)
  refine rhF.if_eq (pc := 5) 25 dX11_areUnlikeRails_5 (by decide) (fun h3 => ?_) (fun h3 => ?_)
  · refine rhF.iconst (pc := 25) (v := 0) dX11_areUnlikeRails_25 (by decide) ?_
    exact rhF.zret (pc := 26) dX11_areUnlikeRails_26 rfl rfl rfl
  · refine rhF.aload_n (pc := 8) dX11_areUnlikeRails_8 0 rfl ?_
    refine rhF.iload_n (pc := 9) dX11_areUnlikeRails_9 2 rfl ?_
    refine rhF.callV (pc := 10) (ci := 11) (embc := rhe0I _ _) [rhI _] dX11_areUnlikeRails_10 ml_X11_113 mv_X11_isRail ⟨_, rfl, rfl⟩ h1 (c_X11_isRail _ _ _ _ _) (by decide) (by decide) rfl (Nat.le_of_ble_eq_true rfl) (fun r4 _ => ?_)
    refine rhF.if_eq (pc := 13) 25 dX11_areUnlikeRails_13 (by decide) (fun h5 => ?_) (fun h5 => ?_)
    · refine rhF.iconst (pc := 25) (v := 0) dX11_areUnlikeRails_25 (by decide) ?_
      exact rhF.zret (pc := 26) dX11_areUnlikeRails_26 rfl rfl rfl
    · refine rhF.iload_n (pc := 16) dX11_areUnlikeRails_16 1 rfl ?_
      refine rhF.iload_n (pc := 17) dX11_areUnlikeRails_17 2 rfl ?_
      refine rhF.icmp_eq (pc := 18) 25 dX11_areUnlikeRails_18 (by decide) (fun h6 => ?_) (fun h6 => ?_)
      · refine rhF.iconst (pc := 25) (v := 0) dX11_areUnlikeRails_25 (by decide) ?_
        exact rhF.zret (pc := 26) dX11_areUnlikeRails_26 rfl rfl rfl
      · refine rhF.iconst (pc := 21) (v := 1) dX11_areUnlikeRails_21 (by decide) ?_
        refine rhF.goto (pc := 22) 26 dX11_areUnlikeRails_22 (by decide) ?_
        exact rhF.zret (pc := 26) dX11_areUnlikeRails_26 rfl rfl rfl
theorem c_X11_areUnlikeRails (E : rhE) (Γ : rhG) (M : rhM) (v0 : Nat) (v1 : Int32) (v2 : Int32) : ∀ a, f_X11_areUnlikeRails Γ M v0 v1 v2 = some a → rhC E 5 yX11_areUnlikeRails cX11_areUnlikeRails 3 (some .boolean) [rhR v0, rhI v1, rhI v2] Γ M ((rhe0I Γ M) a) := rhF.met (by decide +kernel) (Nat.le_of_ble_eq_true rfl) (b_X11_areUnlikeRails v0 v1 v2)
def f_X11_canBeFrom (Γ : rhG) (M : rhM) (v0 : Nat) (v1 : Nat) (v2 : Int32) (v3 : Int32) (v4 : Int32) : Option (Int32) :=
  rhck (Γ.2.2.1 v0 = 12) <|
  (f_X11_areUnlikeRails Γ M v0 v2 v4).bind fun r2 =>
  if r2 = 0 then
    (some 0)
  else
    if v3 < 1 then
      (some 0)
    else
      rhck (Γ.2.2.1 v1 = 8) <|
      (f_X7_count Γ M v1 v2).bind fun r6 =>
      if r6 < v3 then
        (some 0)
      else
        some 1
set_option maxHeartbeats 4000000 in
set_option maxRecDepth 100000 in
theorem b_X11_canBeFrom {E : rhE} {Γ : rhG} {M : rhM} : ∀ (v0 : Nat) (v1 : Nat) (v2 : Int32) (v3 : Int32) (v4 : Int32), rhF E 6 5 yX11_canBeFrom cX11_canBeFrom (some .boolean) Γ (rhe0I Γ M) (f_X11_canBeFrom Γ M v0 v1 v2 v3 v4) 0 [(0, rhR v0), (1, rhR v1), (2, rhI v2), (3, rhI v3), (4, rhI v4)] [] Γ M := by
  intro v0 v1 v2 v3 v4
  rw [f_X11_canBeFrom]
  refine rhF.aload_n (pc := 0) dX11_canBeFrom_0 0 rfl ?_
  refine rhF.iload_n (pc := 1) dX11_canBeFrom_1 2 rfl ?_
  refine rhF.iload (pc := 2) dX11_canBeFrom_2 4 rfl ?_
  refine rhF.ck (fun h1 => ?_)
  refine rhF.callV (pc := 4) (ci := 11) (embc := rhe0I _ _) [rhI _, rhI _] dX11_canBeFrom_4 ml_X11_144 mv_X11_areUnlikeRails ⟨_, rfl, rfl⟩ h1 (c_X11_areUnlikeRails _ _ _ _ _ _) (by decide) (by decide) rfl (Nat.le_of_ble_eq_true rfl) (fun r2 _ => ?_)
  refine rhF.if_eq (pc := 7) 28 dX11_canBeFrom_7 (by decide) (fun h3 => ?_) (fun h3 => ?_)
  · refine rhF.iconst (pc := 28) (v := 0) dX11_canBeFrom_28 (by decide) ?_
    exact rhF.zret (pc := 29) dX11_canBeFrom_29 rfl rfl rfl
  · refine rhF.iload_n (pc := 10) dX11_canBeFrom_10 3 rfl ?_
    refine rhF.iconst (pc := 11) (v := 1) dX11_canBeFrom_11 (by decide) ?_
    refine rhF.icmp_lt (pc := 12) 28 dX11_canBeFrom_12 (by decide) (fun h4 => ?_) (fun h4 => ?_)
    · refine rhF.iconst (pc := 28) (v := 0) dX11_canBeFrom_28 (by decide) ?_
      exact rhF.zret (pc := 29) dX11_canBeFrom_29 rfl rfl rfl
    · refine rhF.iload_n (pc := 15) dX11_canBeFrom_15 3 rfl ?_
      refine rhF.aload_n (pc := 16) dX11_canBeFrom_16 1 rfl ?_
      refine rhF.iload_n (pc := 17) dX11_canBeFrom_17 2 rfl ?_
      refine rhF.ck (fun h5 => ?_)
      refine rhF.callV (pc := 18) (ci := 7) (embc := rhe0I _ _) [rhI _] dX11_canBeFrom_18 ml_X11_117 mv_X7_count ⟨_, rfl, rfl⟩ h5 (c_X7_count _ _ _ _ _) (by decide) (by decide) rfl (Nat.le_of_ble_eq_true rfl) (fun r6 _ => ?_)
      refine rhF.icmp_gt (pc := 21) 28 dX11_canBeFrom_21 (by decide) (fun h7 => ?_) (fun h7 => ?_)
      · refine rhF.iconst (pc := 28) (v := 0) dX11_canBeFrom_28 (by decide) ?_
        exact rhF.zret (pc := 29) dX11_canBeFrom_29 rfl rfl rfl
      · refine rhF.iconst (pc := 24) (v := 1) dX11_canBeFrom_24 (by decide) ?_
        refine rhF.goto (pc := 25) 29 dX11_canBeFrom_25 (by decide) ?_
        exact rhF.zret (pc := 29) dX11_canBeFrom_29 rfl rfl rfl
theorem c_X11_canBeFrom (E : rhE) (Γ : rhG) (M : rhM) (v0 : Nat) (v1 : Nat) (v2 : Int32) (v3 : Int32) (v4 : Int32) : ∀ a, f_X11_canBeFrom Γ M v0 v1 v2 v3 v4 = some a → rhC E 6 yX11_canBeFrom cX11_canBeFrom 5 (some .boolean) [rhR v0, rhR v1, rhI v2, rhI v3, rhI v4] Γ M ((rhe0I Γ M) a) := rhF.met (by decide +kernel) (Nat.le_of_ble_eq_true rfl) (b_X11_canBeFrom v0 v1 v2 v3 v4)
def f_X11_asked (Γ : rhG) (M : rhM) (v0 : Nat) (v1 : Int32) (v2 : Int32) (v3 : Int32) : Option (Int32 × rhM) :=
  rhck (Γ.2.2.1 v0 = 12) <|
  (f_X11_canBeFrom Γ M v0 (M.2.2 v0 5) v1 v2 v3).bind fun r2 =>
  if r2 = 0 then
    (some (((-1000000), M)))
  else
    rhck (Γ.2.2.1 (M.2.2 v0 5) = 8) <|
    (f_X7_last Γ M (M.2.2 v0 5) v1 v2).bind fun r5 =>
    rhck (Γ.2.2.1 (M.2.2 (M.2.2 v0 5) 4) = 15) <|
    rhck (0 ≤ (v3).toInt ∧ (v3).toInt < (Γ.2.2.2 (M.2.2 (M.2.2 v0 5) 4) : Nat)) <|
    rhck (Γ.2.2.1 (M.2.2 v0 3) = 10) <|
    (f_X9_asks Γ M (M.2.2 v0 3) v1 r5 v3 (M.1 (M.2.2 (M.2.2 v0 5) 4) v3.toNatClampNeg)).bind fun r9 =>
    some ((r9.1, r9.2))
set_option maxHeartbeats 4000000 in
set_option maxRecDepth 100000 in
theorem b_X11_asked {E : rhE} {Γ : rhG} : ∀ (M : rhM) (v0 : Nat) (v1 : Int32) (v2 : Int32) (v3 : Int32), rhF E 7 4 yX11_asked cX11_asked (some .int) Γ (rhe1I Γ) (f_X11_asked Γ M v0 v1 v2 v3) 0 [(0, rhR v0), (1, rhI v1), (2, rhI v2), (3, rhI v3)] [] Γ M := by
  intro M v0 v1 v2 v3
  rw [f_X11_asked]
  refine rhF.aload_n (pc := 0) dX11_asked_0 0 rfl ?_
  refine rhF.aload_n (pc := 1) dX11_asked_1 0 rfl ?_
  refine rhF.ck (fun h1 => ?_)
  refine rhF.get (pc := 2) (rhR _) dX11_asked_2 fl_X11_33 h1 rfl ?_
  refine rhF.iload_n (pc := 5) dX11_asked_5 1 rfl ?_
  refine rhF.iload_n (pc := 6) dX11_asked_6 2 rfl ?_
  refine rhF.iload_n (pc := 7) dX11_asked_7 3 rfl ?_
  refine rhF.callV (pc := 8) (ci := 11) (embc := rhe0I _ _) [rhR _, rhI _, rhI _, rhI _] dX11_asked_8 ml_X11_148 mv_X11_canBeFrom ⟨_, rfl, rfl⟩ h1 (c_X11_canBeFrom _ _ _ _ _ _ _ _) (by decide) (by decide) rfl (Nat.le_of_ble_eq_true rfl) (fun r2 _ => ?_)
  refine rhF.if_ne (pc := 11) 17 dX11_asked_11 (by decide) (fun h3 => ?_) (fun h3 => ?_)
  · refine rhF.ldc (pc := 14) dX11_asked_14 k_X11_159 ?_
    exact rhF.zret (pc := 16) dX11_asked_16 rfl rfl rfl
  · refine rhF.aload_n (pc := 17) dX11_asked_17 0 rfl ?_
    refine rhF.get (pc := 18) (rhR _) dX11_asked_18 fl_X11_23 h1 rfl ?_
    refine rhF.iload_n (pc := 21) dX11_asked_21 1 rfl ?_
    refine rhF.aload_n (pc := 22) dX11_asked_22 0 rfl ?_
    refine rhF.get (pc := 23) (rhR _) dX11_asked_23 fl_X11_33 h1 rfl ?_
    refine rhF.iload_n (pc := 26) dX11_asked_26 1 rfl ?_
    refine rhF.iload_n (pc := 27) dX11_asked_27 2 rfl ?_
    refine rhF.ck (fun h4 => ?_)
    refine rhF.callV (pc := 28) (ci := 7) (embc := rhe0I _ _) [rhI _, rhI _] dX11_asked_28 ml_X11_152 mv_X7_last ⟨_, rfl, rfl⟩ h4 (c_X7_last _ _ _ _ _ _) (by decide) (by decide) rfl (Nat.le_of_ble_eq_true rfl) (fun r5 _ => ?_)
    refine rhF.iload_n (pc := 31) dX11_asked_31 3 rfl ?_
    refine rhF.aload_n (pc := 32) dX11_asked_32 0 rfl ?_
    refine rhF.get (pc := 33) (rhR _) dX11_asked_33 fl_X11_33 h1 rfl ?_
    refine rhF.get (pc := 36) (rhR _) dX11_asked_36 fl_X11_134 h4 rfl ?_
    refine rhF.iload_n (pc := 39) dX11_asked_39 3 rfl ?_
    refine rhF.ck (fun h6 => ?_)
    refine rhF.ck (fun h7 => ?_)
    refine rhF.iald (pc := 40) dX11_asked_40 h6 h7 ?_
    refine rhF.ck (fun h8 => ?_)
    refine rhF.callV (pc := 41) (ci := 9) (embc := rhe1I _) [rhI _, rhI _, rhI _, rhI _] dX11_asked_41 ml_X11_160 mv_X9_asks ⟨_, rfl, rfl⟩ h8 (c_X9_asks _ _ _ _ _ _ _ _) (by decide) (by decide) rfl (Nat.le_of_ble_eq_true rfl) (fun r9 _ => ?_)
    exact rhF.zret (pc := 44) dX11_asked_44 rfl rfl rfl
theorem c_X11_asked (E : rhE) (Γ : rhG) (M : rhM) (v0 : Nat) (v1 : Int32) (v2 : Int32) (v3 : Int32) : ∀ a, f_X11_asked Γ M v0 v1 v2 v3 = some a → rhC E 7 yX11_asked cX11_asked 4 (some .int) [rhR v0, rhI v1, rhI v2, rhI v3] Γ M ((rhe1I Γ) a) := rhF.met (by decide +kernel) (Nat.le_of_ble_eq_true rfl) (b_X11_asked M v0 v1 v2 v3)
def f_X11_back (Γ : rhG) (M : rhM) (v0 : Nat) (v1 : Int32) : Option (Int32 × rhG × rhM) :=
  if v1 < 0 then
    (some (((-1), Γ, M)))
  else
    if v1 < 3 then
      (rhck (Γ.2.2.1 v0 = 12) <|
      rhck (Γ.2.2.1 (M.2.2 v0 12) = 16) <|
      rhck (0 ≤ (v1).toInt ∧ (v1).toInt < (Γ.2.2.2 (M.2.2 v0 12) : Nat)) <|
      if (M.2.1 (M.2.2 v0 12) v1.toNatClampNeg) = ((-1 : Int64)) then
        (some (((-1), Γ, M)))
      else
        rhck (Γ.2.2.1 (M.2.2 v0 5) = 8) <|
        (f_X7_look Γ M (M.2.2 v0 5) (M.2.2 v0 3) (M.2.1 (M.2.2 v0 12) v1.toNatClampNeg)).bind fun r8 =>
        rhck (Γ.2.2.1 (r8.2.2 v0 13) = 18) <|
        rhck (0 ≤ (v1).toInt ∧ (v1).toInt < (Γ.2.2.2 (r8.2.2 v0 13) : Nat)) <|
        rhck (Γ.2.2.1 (r8.2.2 v0 7) = 4) <|
        (f_X3_copy Γ r8 (r8.2.2 v0 7) (r8.2.2 (r8.2.2 v0 13) v1.toNatClampNeg)).bind fun r12 =>
        rhck (r12.1.2.2.1 v0 = 12) <|
        rhck (r12.1.2.2.1 (r12.2.2.2 v0 7) = 4) <|
        some ((r12.2.1 (r12.2.2.2 v0 7) 1, r12.1, r12.2)))
    else
      some (((-1), Γ, M))
set_option maxHeartbeats 4000000 in
set_option maxRecDepth 100000 in
theorem b_X11_back {E : rhE} {Γ0 : rhG} : ∀ (Γ : rhG) (M : rhM) (v0 : Nat) (v1 : Int32), rhF E 7 2 yX11_back cX11_back (some .int) Γ0 rhe2I (f_X11_back Γ M v0 v1) 0 [(0, rhR v0), (1, rhI v1)] [] Γ M := by
  intro Γ M v0 v1
  rw [f_X11_back]
  refine rhF.iload_n (pc := 0) dX11_back_0 1 rfl ?_
  refine rhF.if_lt (pc := 1) 22 dX11_back_1 (by decide) (fun h1 => ?_) (fun h1 => ?_)
  · refine rhF.iconst (pc := 22) (v := (-1)) dX11_back_22 (by decide) ?_
    exact rhF.zret (pc := 23) dX11_back_23 rfl rfl rfl
  · refine rhF.iload_n (pc := 4) dX11_back_4 1 rfl ?_
    refine rhF.iconst (pc := 5) (v := 3) dX11_back_5 (by decide) ?_
    refine rhF.icmp_ge (pc := 6) 22 dX11_back_6 (by decide) (fun h2 => ?_) (fun h2 => ?_)
    · refine rhF.aload_n (pc := 9) dX11_back_9 0 rfl ?_
      refine rhF.ck (fun h3 => ?_)
      refine rhF.get (pc := 10) (rhR _) dX11_back_10 fl_X11_55 h3 rfl ?_
      refine rhF.iload_n (pc := 13) dX11_back_13 1 rfl ?_
      refine rhF.ck (fun h4 => ?_)
      refine rhF.ck (fun h5 => ?_)
      refine rhF.lald (pc := 14) dX11_back_14 h4 h5 ?_
      refine rhF.ldc2 (pc := 15) dX11_back_15 k_X11_105 ?_
      refine rhF.lcne (pc := 18) 24 dX11_back_18 dX11_back_19 (by decide) (fun h6 => ?_) (fun h6 => ?_)
      · refine rhF.iconst (pc := 22) (v := (-1)) dX11_back_22 (by decide) ?_
        exact rhF.zret (pc := 23) dX11_back_23 rfl rfl rfl
      · refine rhF.aload_n (pc := 24) dX11_back_24 0 rfl ?_
        refine rhF.get (pc := 25) (rhR _) dX11_back_25 fl_X11_33 h3 rfl ?_
        refine rhF.aload_n (pc := 28) dX11_back_28 0 rfl ?_
        refine rhF.get (pc := 29) (rhR _) dX11_back_29 fl_X11_23 h3 rfl ?_
        refine rhF.aload_n (pc := 32) dX11_back_32 0 rfl ?_
        refine rhF.get (pc := 33) (rhR _) dX11_back_33 fl_X11_55 h3 rfl ?_
        refine rhF.iload_n (pc := 36) dX11_back_36 1 rfl ?_
        refine rhF.lald (pc := 37) dX11_back_37 h4 h5 ?_
        refine rhF.ck (fun h7 => ?_)
        refine rhF.callV (pc := 38) (ci := 7) (embc := rhe1U _) [rhR _, rhJ _] dX11_back_38 ml_X11_91 mv_X7_look ⟨_, rfl, rfl⟩ h7 (c_X7_look _ _ _ _ _ _) (by decide) (by decide) rfl (Nat.le_of_ble_eq_true rfl) (fun r8 _ => ?_)
        refine rhF.aload_n (pc := 41) dX11_back_41 0 rfl ?_
        refine rhF.get (pc := 42) (rhR _) dX11_back_42 fl_X11_45 h3 rfl ?_
        refine rhF.aload_n (pc := 45) dX11_back_45 0 rfl ?_
        refine rhF.get (pc := 46) (rhR _) dX11_back_46 fl_X11_59 h3 rfl ?_
        refine rhF.iload_n (pc := 49) dX11_back_49 1 rfl ?_
        refine rhF.ck (fun h9 => ?_)
        refine rhF.ck (fun h10 => ?_)
        refine rhF.aldP (pc := 50) dX11_back_50 h9 h10 ?_
        refine rhF.ck (fun h11 => ?_)
        refine rhF.callV (pc := 51) (ci := 3) (embc := rhe2U) [rhR _] dX11_back_51 ml_X11_299 mv_X3_copy ⟨_, rfl, rfl⟩ h11 (c_X3_copy _ _ _ _ _) (by decide) (by decide) rfl (Nat.le_of_ble_eq_true rfl) (fun r12 _ => ?_)
        refine rhF.aload_n (pc := 54) dX11_back_54 0 rfl ?_
        refine rhF.ck (fun h13 => ?_)
        refine rhF.get (pc := 55) (rhR _) dX11_back_55 fl_X11_45 h13 rfl ?_
        refine rhF.ck (fun h14 => ?_)
        refine rhF.get (pc := 58) (rhI _) dX11_back_58 fl_X11_184 h14 rfl ?_
        exact rhF.zret (pc := 61) dX11_back_61 rfl rfl rfl
    · refine rhF.iconst (pc := 22) (v := (-1)) dX11_back_22 (by decide) ?_
      exact rhF.zret (pc := 23) dX11_back_23 rfl rfl rfl
theorem c_X11_back (E : rhE) (Γ : rhG) (M : rhM) (v0 : Nat) (v1 : Int32) : ∀ a, f_X11_back Γ M v0 v1 = some a → rhC E 7 yX11_back cX11_back 2 (some .int) [rhR v0, rhI v1] Γ M (rhe2I a) := rhF.met (by decide +kernel) (Nat.le_of_ble_eq_true rfl) (b_X11_back (Γ0 := Γ) Γ M v0 v1)
def f_X11_beginTown_58 (Γ : rhG) : Nat → rhM → Nat → Int32 → Option (rhM)
  | 0, _, _, _ => none
  | n + 1, M, v0, v1 =>
    if v1 < 3 then
      (rhck (Γ.2.2.1 v0 = 12) <|
      rhck (Γ.2.2.1 (M.2.2 v0 12) = 16) <|
      rhck (0 ≤ (v1).toInt ∧ (v1).toInt < (Γ.2.2.2 (M.2.2 v0 12) : Nat)) <|
      let M19 := rhsl M (M.2.2 v0 12) (v1 : Int32).toNatClampNeg ((-1 : Int64))
      let x20 : Int32 := v1 + 1
      f_X11_beginTown_58 Γ n M19 v0 x20)
    else
      some M
def f_X11_beginTown (Γ : rhG) (M : rhM) (v0 : Nat) : Option (rhM) :=
  rhck (Γ.2.2.1 v0 = 12) <|
  rhck (Γ.2.2.1 (M.2.2 v0 3) = 10) <|
  rhck (Γ.2.2.1 (M.2.2 v0 5) = 8) <|
  (f_X7_look Γ M (M.2.2 v0 5) (M.2.2 v0 3) (M.2.1 (M.2.2 v0 3) 5)).bind fun r4 =>
  rhck (Γ.2.2.1 (r4.2.2 v0 7) = 4) <|
  (f_X3_clear Γ r4 (r4.2.2 v0 7)).bind fun r6 =>
  rhck (Γ.2.2.1 (r6.2.2 v0 8) = 4) <|
  (f_X3_clear Γ r6 (r6.2.2 v0 8)).bind fun r8 =>
  rhck (Γ.2.2.1 (r8.2.2 v0 9) = 4) <|
  (f_X3_clear Γ r8 (r8.2.2 v0 9)).bind fun r10 =>
  let M11 := rhsl r10 v0 10 ((0 : Int64))
  let M12 := rhsi M11 v0 11 0
  rhck (Γ.2.2.1 (r10.2.2 v0 14) = 7) <|
  (f_X6_clear Γ M12 (r10.2.2 v0 14)).bind fun r14 =>
  f_X11_beginTown_58 Γ rhFU r14 v0 0
set_option maxHeartbeats 4000000 in
set_option maxRecDepth 100000 in
theorem b_X11_beginTown_58 {E : rhE} {Γ : rhG} : ∀ (n : Nat) (M : rhM) (v0 : Nat) (v1 : Int32), rhF E 6 2 yX11_beginTown cX11_beginTown none Γ (rhe1U Γ) (f_X11_beginTown_58 Γ n M v0 v1) 58 [(0, rhR v0), (1, rhI v1)] [] Γ M := by
  intro n
  induction n with
  | zero => intro M v0 v1; rw [f_X11_beginTown_58]; exact rhF.nope
  | succ n ih =>
    intro M v0 v1
    rw [f_X11_beginTown_58]
    refine rhF.iload_n (pc := 58) dX11_beginTown_58 1 rfl ?_
    refine rhF.iconst (pc := 59) (v := 3) dX11_beginTown_59 (by decide) ?_
    refine rhF.icmp_ge (pc := 60) 78 dX11_beginTown_60 (by decide) (fun h15 => ?_) (fun h15 => ?_)
    · refine rhF.aload_n (pc := 63) dX11_beginTown_63 0 rfl ?_
      refine rhF.ck (fun h16 => ?_)
      refine rhF.get (pc := 64) (rhR _) dX11_beginTown_64 fl_X11_55 h16 rfl ?_
      refine rhF.iload_n (pc := 67) dX11_beginTown_67 1 rfl ?_
      refine rhF.ldc2 (pc := 68) dX11_beginTown_68 k_X11_105 ?_
      refine rhF.ck (fun h17 => ?_)
      refine rhF.ck (fun h18 => ?_)
      refine rhF.last (pc := 71) dX11_beginTown_71 h17 h18 ?_
      refine rhF.iinc (pc := 72) (L' := [(1, rhI _), (0, rhR _)]) dX11_beginTown_72 1 rfl rfl (by decide) rfl ?_
      refine rhF.goto (pc := 75) 58 dX11_beginTown_75 (by decide) ?_
      refine rhF.sub [1, 0] rfl ?_
      exact ih _ _ _
    · exact rhF.vret (pc := 78) dX11_beginTown_78 rfl rfl
set_option maxHeartbeats 4000000 in
set_option maxRecDepth 100000 in
theorem b_X11_beginTown {E : rhE} {Γ : rhG} : ∀ (M : rhM) (v0 : Nat), rhF E 6 2 yX11_beginTown cX11_beginTown none Γ (rhe1U Γ) (f_X11_beginTown Γ M v0) 0 [(0, rhR v0)] [] Γ M := by
  intro M v0
  rw [f_X11_beginTown]
  refine rhF.aload_n (pc := 0) dX11_beginTown_0 0 rfl ?_
  refine rhF.ck (fun h1 => ?_)
  refine rhF.get (pc := 1) (rhR _) dX11_beginTown_1 fl_X11_33 h1 rfl ?_
  refine rhF.aload_n (pc := 4) dX11_beginTown_4 0 rfl ?_
  refine rhF.get (pc := 5) (rhR _) dX11_beginTown_5 fl_X11_23 h1 rfl ?_
  refine rhF.aload_n (pc := 8) dX11_beginTown_8 0 rfl ?_
  refine rhF.get (pc := 9) (rhR _) dX11_beginTown_9 fl_X11_23 h1 rfl ?_
  refine rhF.ck (fun h2 => ?_)
  refine rhF.get (pc := 12) (rhJ _) dX11_beginTown_12 fl_X11_87 h2 rfl ?_
  refine rhF.ck (fun h3 => ?_)
  refine rhF.callV (pc := 15) (ci := 7) (embc := rhe1U _) [rhR _, rhJ _] dX11_beginTown_15 ml_X11_91 mv_X7_look ⟨_, rfl, rfl⟩ h3 (c_X7_look _ _ _ _ _ _) (by decide) (by decide) rfl (Nat.le_of_ble_eq_true rfl) (fun r4 _ => ?_)
  refine rhF.aload_n (pc := 18) dX11_beginTown_18 0 rfl ?_
  refine rhF.get (pc := 19) (rhR _) dX11_beginTown_19 fl_X11_45 h1 rfl ?_
  refine rhF.ck (fun h5 => ?_)
  refine rhF.callV (pc := 22) (ci := 3) (embc := rhe1U _) [] dX11_beginTown_22 ml_X11_95 mv_X3_clear ⟨_, rfl, rfl⟩ h5 (c_X3_clear _ _ _ _) (by decide) (by decide) rfl (Nat.le_of_ble_eq_true rfl) (fun r6 _ => ?_)
  refine rhF.aload_n (pc := 25) dX11_beginTown_25 0 rfl ?_
  refine rhF.get (pc := 26) (rhR _) dX11_beginTown_26 fl_X11_49 h1 rfl ?_
  refine rhF.ck (fun h7 => ?_)
  refine rhF.callV (pc := 29) (ci := 3) (embc := rhe1U _) [] dX11_beginTown_29 ml_X11_95 mv_X3_clear ⟨_, rfl, rfl⟩ h7 (c_X3_clear _ _ _ _) (by decide) (by decide) rfl (Nat.le_of_ble_eq_true rfl) (fun r8 _ => ?_)
  refine rhF.aload_n (pc := 32) dX11_beginTown_32 0 rfl ?_
  refine rhF.get (pc := 33) (rhR _) dX11_beginTown_33 fl_X11_52 h1 rfl ?_
  refine rhF.ck (fun h9 => ?_)
  refine rhF.callV (pc := 36) (ci := 3) (embc := rhe1U _) [] dX11_beginTown_36 ml_X11_95 mv_X3_clear ⟨_, rfl, rfl⟩ h9 (c_X3_clear _ _ _ _) (by decide) (by decide) rfl (Nat.le_of_ble_eq_true rfl) (fun r10 _ => ?_)
  refine rhF.aload_n (pc := 39) dX11_beginTown_39 0 rfl ?_
  refine rhF.lconst (pc := 40) (v := 0) dX11_beginTown_40 (by decide) ?_
  refine rhF.putl (pc := 41) dX11_beginTown_41 fl_X11_98 h1 (fun q hq => by cases hq; exact Or.inl rfl) ⟨rfl, rfl⟩ (fun _ => rfl) ?_
  refine rhF.aload_n (pc := 44) dX11_beginTown_44 0 rfl ?_
  refine rhF.iconst (pc := 45) (v := 0) dX11_beginTown_45 (by decide) ?_
  refine rhF.puti (pc := 46) dX11_beginTown_46 fl_X11_101 h1 (fun q hq => by cases hq; exact Or.inl rfl) ⟨rfl, rfl⟩ (fun _ => rfl) ?_
  refine rhF.aload_n (pc := 49) dX11_beginTown_49 0 rfl ?_
  refine rhF.get (pc := 50) (rhR _) dX11_beginTown_50 fl_X11_66 h1 rfl ?_
  refine rhF.ck (fun h13 => ?_)
  refine rhF.callV (pc := 53) (ci := 6) (embc := rhe1U _) [] dX11_beginTown_53 ml_X11_104 mv_X6_clear ⟨_, rfl, rfl⟩ h13 (c_X6_clear _ _ _ _) (by decide) (by decide) rfl (Nat.le_of_ble_eq_true rfl) (fun r14 _ => ?_)
  refine rhF.iconst (pc := 56) (v := 0) dX11_beginTown_56 (by decide) ?_
  refine rhF.istore_n (pc := 57) (L' := [(1, rhI _), (0, rhR _)]) dX11_beginTown_57 (by decide) rfl ?_
  refine rhF.sub [1, 0] rfl ?_
  exact (b_X11_beginTown_58 rhFU) _ _ _
theorem c_X11_beginTown (E : rhE) (Γ : rhG) (M : rhM) (v0 : Nat) : ∀ a, f_X11_beginTown Γ M v0 = some a → rhC E 6 yX11_beginTown cX11_beginTown 2 none [rhR v0] Γ M ((rhe1U Γ) a) := rhF.met (by decide +kernel) (Nat.le_of_ble_eq_true rfl) (b_X11_beginTown M v0)
def f_X11_isHouse (Γ : rhG) (M : rhM) (v0 : Nat) (v1 : Int32) : Option (Int32) :=
  if v1 < 0 then
    (some 0)
  else
    rhck (Γ.2.2.1 v0 = 12) <|
    rhck (Γ.2.2.1 (M.2.2 v0 3) = 10) <|
    if v1 < (M.1 (M.2.2 v0 3) 1) then
      (some 1)
    else
      some 0
set_option maxHeartbeats 4000000 in
set_option maxRecDepth 100000 in
theorem b_X11_isHouse {E : rhE} {Γ : rhG} {M : rhM} : ∀ (v0 : Nat) (v1 : Int32), rhF E 1 2 yX11_isHouse cX11_isHouse (some .boolean) Γ (rhe0I Γ M) (f_X11_isHouse Γ M v0 v1) 0 [(0, rhR v0), (1, rhI v1)] [] Γ M := by
  intro v0 v1
  rw [f_X11_isHouse]
  refine rhF.iload_n (pc := 0) dX11_isHouse_0 1 rfl ?_
  refine rhF.if_lt (pc := 1) 19 dX11_isHouse_1 (by decide) (fun h1 => ?_) (fun h1 => ?_)
  · refine rhF.iconst (pc := 19) (v := 0) dX11_isHouse_19 (by decide) ?_
    exact rhF.zret (pc := 20) dX11_isHouse_20 rfl rfl rfl
  · refine rhF.iload_n (pc := 4) dX11_isHouse_4 1 rfl ?_
    refine rhF.aload_n (pc := 5) dX11_isHouse_5 0 rfl ?_
    refine rhF.ck (fun h2 => ?_)
    refine rhF.get (pc := 6) (rhR _) dX11_isHouse_6 fl_X11_23 h2 rfl ?_
    refine rhF.ck (fun h3 => ?_)
    refine rhF.get (pc := 9) (rhI _) dX11_isHouse_9 fl_X11_84 h3 rfl ?_
    refine rhF.icmp_ge (pc := 12) 19 dX11_isHouse_12 (by decide) (fun h4 => ?_) (fun h4 => ?_)
    · refine rhF.iconst (pc := 15) (v := 1) dX11_isHouse_15 (by decide) ?_
      refine rhF.goto (pc := 16) 20 dX11_isHouse_16 (by decide) ?_
      exact rhF.zret (pc := 20) dX11_isHouse_20 rfl rfl rfl
    · refine rhF.iconst (pc := 19) (v := 0) dX11_isHouse_19 (by decide) ?_
      exact rhF.zret (pc := 20) dX11_isHouse_20 rfl rfl rfl
theorem c_X11_isHouse (E : rhE) (Γ : rhG) (M : rhM) (v0 : Nat) (v1 : Int32) : ∀ a, f_X11_isHouse Γ M v0 v1 = some a → rhC E 1 yX11_isHouse cX11_isHouse 2 (some .boolean) [rhR v0, rhI v1] Γ M ((rhe0I Γ M) a) := rhF.met (by decide +kernel) (Nat.le_of_ble_eq_true rfl) (b_X11_isHouse v0 v1)
def f_X11_can (Γ : rhG) (M : rhM) (v0 : Nat) (v1 : Int32) (v2 : Int32) (v3 : Int32) : Option (Int32 × rhM) :=
  rhck (Γ.2.2.1 v0 = 12) <|
  (f_X11_isHouse Γ M v0 v1).bind fun r2 =>
  if r2 = 0 then
    (some (((-1), M)))
  else
    if v2 < 0 then
      (some (((-1), M)))
    else
      if 3 < v2 then
        (some (((-1), M)))
      else
        rhck (Γ.2.2.1 (M.2.2 v0 14) = 7) <|
        (f_X6_count Γ M (M.2.2 v0 14) (M.2.2 v0 3) v2 v3).bind fun r7 =>
        rhck (Γ.2.2.1 (r7.2.2 v0 14) = 7) <|
        (f_X6_railsOf Γ r7 (r7.2.2 v0 14) v1 v2).bind fun r9 =>
        some ((r9, r7))
set_option maxHeartbeats 4000000 in
set_option maxRecDepth 100000 in
theorem b_X11_can {E : rhE} {Γ : rhG} : ∀ (M : rhM) (v0 : Nat) (v1 : Int32) (v2 : Int32) (v3 : Int32), rhF E 71 4 yX11_can cX11_can (some .int) Γ (rhe1I Γ) (f_X11_can Γ M v0 v1 v2 v3) 0 [(0, rhR v0), (1, rhI v1), (2, rhI v2), (3, rhI v3)] [] Γ M := by
  intro M v0 v1 v2 v3
  rw [f_X11_can]
  refine rhF.aload_n (pc := 0) dX11_can_0 0 rfl ?_
  refine rhF.iload_n (pc := 1) dX11_can_1 1 rfl ?_
  refine rhF.ck (fun h1 => ?_)
  refine rhF.callV (pc := 2) (ci := 11) (embc := rhe0I _ _) [rhI _] dX11_can_2 ml_X11_125 mv_X11_isHouse ⟨_, rfl, rfl⟩ h1 (c_X11_isHouse _ _ _ _ _) (by decide) (by decide) rfl (Nat.le_of_ble_eq_true rfl) (fun r2 _ => ?_)
  refine rhF.if_eq (pc := 5) 17 dX11_can_5 (by decide) (fun h3 => ?_) (fun h3 => ?_)
  · refine rhF.iconst (pc := 17) (v := (-1)) dX11_can_17 (by decide) ?_
    exact rhF.zret (pc := 18) dX11_can_18 rfl rfl rfl
  · refine rhF.iload_n (pc := 8) dX11_can_8 2 rfl ?_
    refine rhF.if_lt (pc := 9) 17 dX11_can_9 (by decide) (fun h4 => ?_) (fun h4 => ?_)
    · refine rhF.iconst (pc := 17) (v := (-1)) dX11_can_17 (by decide) ?_
      exact rhF.zret (pc := 18) dX11_can_18 rfl rfl rfl
    · refine rhF.iload_n (pc := 12) dX11_can_12 2 rfl ?_
      refine rhF.iconst (pc := 13) (v := 3) dX11_can_13 (by decide) ?_
      refine rhF.icmp_le (pc := 14) 19 dX11_can_14 (by decide) (fun h5 => ?_) (fun h5 => ?_)
      · refine rhF.iconst (pc := 17) (v := (-1)) dX11_can_17 (by decide) ?_
        exact rhF.zret (pc := 18) dX11_can_18 rfl rfl rfl
      · refine rhF.aload_n (pc := 19) dX11_can_19 0 rfl ?_
        refine rhF.get (pc := 20) (rhR _) dX11_can_20 fl_X11_66 h1 rfl ?_
        refine rhF.aload_n (pc := 23) dX11_can_23 0 rfl ?_
        refine rhF.get (pc := 24) (rhR _) dX11_can_24 fl_X11_23 h1 rfl ?_
        refine rhF.iload_n (pc := 27) dX11_can_27 2 rfl ?_
        refine rhF.iload_n (pc := 28) dX11_can_28 3 rfl ?_
        refine rhF.ck (fun h6 => ?_)
        refine rhF.callV (pc := 29) (ci := 6) (embc := rhe1U _) [rhR _, rhI _, rhI _] dX11_can_29 ml_X11_290 mv_X6_count ⟨_, rfl, rfl⟩ h6 (c_X6_count _ _ _ _ _ _ _) (by decide) (by decide) rfl (Nat.le_of_ble_eq_true rfl) (fun r7 _ => ?_)
        refine rhF.aload_n (pc := 32) dX11_can_32 0 rfl ?_
        refine rhF.get (pc := 33) (rhR _) dX11_can_33 fl_X11_66 h1 rfl ?_
        refine rhF.iload_n (pc := 36) dX11_can_36 1 rfl ?_
        refine rhF.iload_n (pc := 37) dX11_can_37 2 rfl ?_
        refine rhF.ck (fun h8 => ?_)
        refine rhF.callV (pc := 38) (ci := 6) (embc := rhe0I _ _) [rhI _, rhI _] dX11_can_38 ml_X11_296 mv_X6_railsOf ⟨_, rfl, rfl⟩ h8 (c_X6_railsOf _ _ _ _ _ _) (by decide) (by decide) rfl (Nat.le_of_ble_eq_true rfl) (fun r9 _ => ?_)
        exact rhF.zret (pc := 41) dX11_can_41 rfl rfl rfl
theorem c_X11_can (E : rhE) (Γ : rhG) (M : rhM) (v0 : Nat) (v1 : Int32) (v2 : Int32) (v3 : Int32) : ∀ a, f_X11_can Γ M v0 v1 v2 v3 = some a → rhC E 71 yX11_can cX11_can 4 (some .int) [rhR v0, rhI v1, rhI v2, rhI v3] Γ M ((rhe1I Γ) a) := rhF.met (by decide +kernel) (Nat.le_of_ble_eq_true rfl) (b_X11_can M v0 v1 v2 v3)
def f_X11_end (Γ : rhG) (M : rhM) (v0 : Nat) (v1 : Int32) : Option (Int32 × rhM) :=
  if v1 < 0 then
    (some (((-1), M)))
  else
    rhck (Γ.2.2.1 v0 = 12) <|
    if (M.1 v0 1) < v1 then
      (some (((-1), M)))
    else
      let M4 := rhsi M v0 1 v1
      some ((v1, M4))
set_option maxHeartbeats 4000000 in
set_option maxRecDepth 100000 in
theorem b_X11_end {E : rhE} {Γ : rhG} : ∀ (M : rhM) (v0 : Nat) (v1 : Int32), rhF E 1 2 yX11_end cX11_end (some .int) Γ (rhe1I Γ) (f_X11_end Γ M v0 v1) 0 [(0, rhR v0), (1, rhI v1)] [] Γ M := by
  intro M v0 v1
  rw [f_X11_end]
  refine rhF.iload_n (pc := 0) dX11_end_0 1 rfl ?_
  refine rhF.if_lt (pc := 1) 12 dX11_end_1 (by decide) (fun h1 => ?_) (fun h1 => ?_)
  · refine rhF.iconst (pc := 12) (v := (-1)) dX11_end_12 (by decide) ?_
    exact rhF.zret (pc := 13) dX11_end_13 rfl rfl rfl
  · refine rhF.iload_n (pc := 4) dX11_end_4 1 rfl ?_
    refine rhF.aload_n (pc := 5) dX11_end_5 0 rfl ?_
    refine rhF.ck (fun h2 => ?_)
    refine rhF.get (pc := 6) (rhI _) dX11_end_6 fl_X11_73 h2 rfl ?_
    refine rhF.icmp_le (pc := 9) 14 dX11_end_9 (by decide) (fun h3 => ?_) (fun h3 => ?_)
    · refine rhF.iconst (pc := 12) (v := (-1)) dX11_end_12 (by decide) ?_
      exact rhF.zret (pc := 13) dX11_end_13 rfl rfl rfl
    · refine rhF.aload_n (pc := 14) dX11_end_14 0 rfl ?_
      refine rhF.iload_n (pc := 15) dX11_end_15 1 rfl ?_
      refine rhF.puti (pc := 16) dX11_end_16 fl_X11_73 h2 (fun q hq => by cases hq; exact Or.inl rfl) ⟨rfl, rfl⟩ (fun _ => rfl) ?_
      refine rhF.iload_n (pc := 19) dX11_end_19 1 rfl ?_
      exact rhF.zret (pc := 20) dX11_end_20 rfl rfl rfl
theorem c_X11_end (E : rhE) (Γ : rhG) (M : rhM) (v0 : Nat) (v1 : Int32) : ∀ a, f_X11_end Γ M v0 v1 = some a → rhC E 1 yX11_end cX11_end 2 (some .int) [rhR v0, rhI v1] Γ M ((rhe1I Γ) a) := rhF.met (by decide +kernel) (Nat.le_of_ble_eq_true rfl) (b_X11_end M v0 v1)
def f_X11_fault (Γ : rhG) (M : rhM) (v0 : Nat) (v1 : Int32) : Option (Int32) :=
  if v1 = 0 then
    (rhck (Γ.2.2.1 v0 = 12) <|
    rhck (Γ.2.2.1 (M.2.2 v0 2) = 5) <|
    some (M.1 (M.2.2 v0 2) 0))
  else
  if v1 = 1 then
    (rhck (Γ.2.2.1 v0 = 12) <|
    rhck (Γ.2.2.1 (M.2.2 v0 2) = 5) <|
    if (M.1 (M.2.2 v0 2) 0) = 0 then
      (some ((-1)))
    else
      some (M.1 (M.2.2 v0 2) 1))
  else
  some ((-1))
set_option maxHeartbeats 4000000 in
set_option maxRecDepth 100000 in
theorem b_X11_fault {E : rhE} {Γ : rhG} {M : rhM} : ∀ (v0 : Nat) (v1 : Int32), rhF E 1 2 yX11_fault cX11_fault (some .int) Γ (rhe0I Γ M) (f_X11_fault Γ M v0 v1) 0 [(0, rhR v0), (1, rhI v1)] [] Γ M := by
  intro v0 v1
  rw [f_X11_fault]
  refine rhF.iload_n (pc := 0) dX11_fault_0 1 rfl ?_
  refine rhF.ite (fun h1 => ?_) (fun h1 => ?_)
  · refine rhF.ls (pc := 1) 28 dX11_fault_1 (by decide) (by rw [h1] <;> rfl) (by decide) ?_
    refine rhF.aload_n (pc := 28) dX11_fault_28 0 rfl ?_
    refine rhF.ck (fun h2 => ?_)
    refine rhF.get (pc := 29) (rhR _) dX11_fault_29 fl_X11_16 h2 rfl ?_
    refine rhF.ck (fun h3 => ?_)
    refine rhF.get (pc := 32) (rhI _) dX11_fault_32 fl_X11_107 h3 rfl ?_
    exact rhF.zret (pc := 35) dX11_fault_35 rfl rfl rfl
  · skip
    refine rhF.ite (fun h4 => ?_) (fun h4 => ?_)
    · refine rhF.ls (pc := 1) 36 dX11_fault_1 (by decide) (by rw [h4] <;> rfl) (by decide) ?_
      refine rhF.aload_n (pc := 36) dX11_fault_36 0 rfl ?_
      refine rhF.ck (fun h5 => ?_)
      refine rhF.get (pc := 37) (rhR _) dX11_fault_37 fl_X11_16 h5 rfl ?_
      refine rhF.ck (fun h6 => ?_)
      refine rhF.get (pc := 40) (rhI _) dX11_fault_40 fl_X11_107 h6 rfl ?_
      refine rhF.if_ne (pc := 43) 50 dX11_fault_43 (by decide) (fun h7 => ?_) (fun h7 => ?_)
      · refine rhF.iconst (pc := 46) (v := (-1)) dX11_fault_46 (by decide) ?_
        refine rhF.goto (pc := 47) 57 dX11_fault_47 (by decide) ?_
        exact rhF.zret (pc := 57) dX11_fault_57 rfl rfl rfl
      · refine rhF.aload_n (pc := 50) dX11_fault_50 0 rfl ?_
        refine rhF.get (pc := 51) (rhR _) dX11_fault_51 fl_X11_16 h5 rfl ?_
        refine rhF.get (pc := 54) (rhI _) dX11_fault_54 fl_X11_110 h6 rfl ?_
        exact rhF.zret (pc := 57) dX11_fault_57 rfl rfl rfl
    · skip
      refine rhF.ls (pc := 1) 58 dX11_fault_1 (by decide) (rhlkd _ _ _ (List.forall_mem_cons.mpr ⟨rhne h1 (n := 0) (by decide), List.forall_mem_cons.mpr ⟨rhne h4 (n := 1) (by decide), fun _ h => absurd h List.not_mem_nil⟩⟩)) (by decide) ?_
      refine rhF.iconst (pc := 58) (v := (-1)) dX11_fault_58 (by decide) ?_
      exact rhF.zret (pc := 59) dX11_fault_59 rfl rfl rfl
theorem c_X11_fault (E : rhE) (Γ : rhG) (M : rhM) (v0 : Nat) (v1 : Int32) : ∀ a, f_X11_fault Γ M v0 v1 = some a → rhC E 1 yX11_fault cX11_fault 2 (some .int) [rhR v0, rhI v1] Γ M ((rhe0I Γ M) a) := rhF.met (by decide +kernel) (Nat.le_of_ble_eq_true rfl) (b_X11_fault v0 v1)
def f_X11_putBytes_3 (Γ : rhG) : Nat → rhM → Nat → Int32 → Int32 → Option (rhM)
  | 0, _, _, _, _ => none
  | n + 1, M, v0, v1, v2 =>
    if v2 < 0 then
      (some M)
    else
      rhck (Γ.2.2.1 v0 = 12) <|
      rhck (Γ.2.2.1 (M.2.2 v0 0) = 14) <|
      if (M.1 v0 1) < (Int32.ofNat (Γ.2.2.2 (M.2.2 v0 0))) then
        (rhck (0 ≤ (M.1 v0 1).toInt ∧ (M.1 v0 1).toInt < (Γ.2.2.2 (M.2.2 v0 0) : Nat)) <|
        let M6 := rhsi M (M.2.2 v0 0) (M.1 v0 1 : Int32).toNatClampNeg (vp_nar .byte ((rhus v1 v2).toInt8.toInt32))
        let M7 := rhsi M6 v0 1 ((M6.1 v0 1) + 1)
        let x8 : Int32 := v2 + (-8)
        f_X11_putBytes_3 Γ n M7 v0 v1 x8)
      else
        some M
def f_X11_putBytes (Γ : rhG) (M : rhM) (v0 : Nat) (v1 : Int32) : Option (rhM) :=
  f_X11_putBytes_3 Γ rhFU M v0 v1 24
set_option maxHeartbeats 4000000 in
set_option maxRecDepth 100000 in
theorem b_X11_putBytes_3 {E : rhE} {Γ : rhG} : ∀ (n : Nat) (M : rhM) (v0 : Nat) (v1 : Int32) (v2 : Int32), rhF E 1 3 yX11_putBytes cX11_putBytes none Γ (rhe1U Γ) (f_X11_putBytes_3 Γ n M v0 v1 v2) 3 [(0, rhR v0), (1, rhI v1), (2, rhI v2)] [] Γ M := by
  intro n
  induction n with
  | zero => intro M v0 v1 v2; rw [f_X11_putBytes_3]; exact rhF.nope
  | succ n ih =>
    intro M v0 v1 v2
    rw [f_X11_putBytes_3]
    refine rhF.iload_n (pc := 3) dX11_putBytes_3 2 rfl ?_
    refine rhF.if_lt (pc := 4) 48 dX11_putBytes_4 (by decide) (fun h1 => ?_) (fun h1 => ?_)
    · exact rhF.vret (pc := 48) dX11_putBytes_48 rfl rfl
    · refine rhF.aload_n (pc := 7) dX11_putBytes_7 0 rfl ?_
      refine rhF.ck (fun h2 => ?_)
      refine rhF.get (pc := 8) (rhI _) dX11_putBytes_8 fl_X11_73 h2 rfl ?_
      refine rhF.aload_n (pc := 11) dX11_putBytes_11 0 rfl ?_
      refine rhF.get (pc := 12) (rhR _) dX11_putBytes_12 fl_X11_9 h2 rfl ?_
      refine rhF.ck (fun h3 => ?_)
      refine rhF.alen14 (pc := 15) dX11_putBytes_15 h3 ?_
      refine rhF.icmp_ge (pc := 16) 48 dX11_putBytes_16 (by decide) (fun h4 => ?_) (fun h4 => ?_)
      · refine rhF.aload_n (pc := 19) dX11_putBytes_19 0 rfl ?_
        refine rhF.get (pc := 20) (rhR _) dX11_putBytes_20 fl_X11_9 h2 rfl ?_
        refine rhF.aload_n (pc := 23) dX11_putBytes_23 0 rfl ?_
        refine rhF.get (pc := 24) (rhI _) dX11_putBytes_24 fl_X11_73 h2 rfl ?_
        refine rhF.iload_n (pc := 27) dX11_putBytes_27 1 rfl ?_
        refine rhF.iload_n (pc := 28) dX11_putBytes_28 2 rfl ?_
        refine rhF.iushr (pc := 29) dX11_putBytes_29 ?_
        refine rhF.i2b (pc := 30) dX11_putBytes_30 ?_
        refine rhF.ck (fun h5 => ?_)
        refine rhF.bast (pc := 31) dX11_putBytes_31 h3 h5 ?_
        refine rhF.aload_n (pc := 32) dX11_putBytes_32 0 rfl ?_
        refine rhF.dupr (pc := 33) dX11_putBytes_33 ?_
        refine rhF.get (pc := 34) (rhI _) dX11_putBytes_34 fl_X11_73 h2 rfl ?_
        refine rhF.iconst (pc := 37) (v := 1) dX11_putBytes_37 (by decide) ?_
        refine rhF.iadd (pc := 38) dX11_putBytes_38 ?_
        refine rhF.puti (pc := 39) dX11_putBytes_39 fl_X11_73 h2 (fun q hq => by cases hq; exact Or.inl rfl) ⟨rfl, rfl⟩ (fun _ => rfl) ?_
        refine rhF.iinc (pc := 42) (L' := [(2, rhI _), (0, rhR _), (1, rhI _)]) dX11_putBytes_42 2 rfl rfl (by decide) rfl ?_
        refine rhF.goto (pc := 45) 3 dX11_putBytes_45 (by decide) ?_
        refine rhF.sub [1, 2, 0] rfl ?_
        exact ih _ _ _ _
      · exact rhF.vret (pc := 48) dX11_putBytes_48 rfl rfl
set_option maxHeartbeats 4000000 in
set_option maxRecDepth 100000 in
theorem b_X11_putBytes {E : rhE} {Γ : rhG} : ∀ (M : rhM) (v0 : Nat) (v1 : Int32), rhF E 1 3 yX11_putBytes cX11_putBytes none Γ (rhe1U Γ) (f_X11_putBytes Γ M v0 v1) 0 [(0, rhR v0), (1, rhI v1)] [] Γ M := by
  intro M v0 v1
  rw [f_X11_putBytes]
  refine rhF.bipush (pc := 0) (v := 24) dX11_putBytes_0 (by decide) ?_
  refine rhF.istore_n (pc := 2) (L' := [(2, rhI _), (0, rhR _), (1, rhI _)]) dX11_putBytes_2 (by decide) rfl ?_
  refine rhF.sub [1, 2, 0] rfl ?_
  exact (b_X11_putBytes_3 rhFU) _ _ _ _
theorem c_X11_putBytes (E : rhE) (Γ : rhG) (M : rhM) (v0 : Nat) (v1 : Int32) : ∀ a, f_X11_putBytes Γ M v0 v1 = some a → rhC E 1 yX11_putBytes cX11_putBytes 3 none [rhR v0, rhI v1] Γ M ((rhe1U Γ) a) := rhF.met (by decide +kernel) (Nat.le_of_ble_eq_true rfl) (b_X11_putBytes M v0 v1)
def f_X11_feed (Γ : rhG) (M : rhM) (v0 : Nat) (v1 : Int32) (v2 : Int32) (v3 : Int32) (v4 : Int32) (v5 : Int32) : Option (Int32 × rhM) :=
  rhck (Γ.2.2.1 v0 = 12) <|
  if 1600 < ((M.1 v0 1) + 20) then
    (some (((-1), M)))
  else
    (f_X11_putBytes Γ M v0 v1).bind fun r3 =>
    (f_X11_putBytes Γ r3 v0 v2).bind fun r4 =>
    (f_X11_putBytes Γ r4 v0 v3).bind fun r5 =>
    (f_X11_putBytes Γ r5 v0 v4).bind fun r6 =>
    (f_X11_putBytes Γ r6 v0 v5).bind fun r7 =>
    some ((r7.1 v0 1, r7))
set_option maxHeartbeats 4000000 in
set_option maxRecDepth 100000 in
theorem b_X11_feed {E : rhE} {Γ : rhG} : ∀ (M : rhM) (v0 : Nat) (v1 : Int32) (v2 : Int32) (v3 : Int32) (v4 : Int32) (v5 : Int32), rhF E 5 6 yX11_feed cX11_feed (some .int) Γ (rhe1I Γ) (f_X11_feed Γ M v0 v1 v2 v3 v4 v5) 0 [(0, rhR v0), (1, rhI v1), (2, rhI v2), (3, rhI v3), (4, rhI v4), (5, rhI v5)] [] Γ M := by
  intro M v0 v1 v2 v3 v4 v5
  rw [f_X11_feed]
  refine rhF.aload_n (pc := 0) dX11_feed_0 0 rfl ?_
  refine rhF.ck (fun h1 => ?_)
  refine rhF.get (pc := 1) (rhI _) dX11_feed_1 fl_X11_73 h1 rfl ?_
  refine rhF.bipush (pc := 4) (v := 20) dX11_feed_4 (by decide) ?_
  refine rhF.iadd (pc := 6) dX11_feed_6 ?_
  refine rhF.sipush (pc := 7) (v := 1600) dX11_feed_7 (by decide) ?_
  refine rhF.icmp_le (pc := 10) 15 dX11_feed_10 (by decide) (fun h2 => ?_) (fun h2 => ?_)
  · refine rhF.iconst (pc := 13) (v := (-1)) dX11_feed_13 (by decide) ?_
    exact rhF.zret (pc := 14) dX11_feed_14 rfl rfl rfl
  · refine rhF.aload_n (pc := 15) dX11_feed_15 0 rfl ?_
    refine rhF.iload_n (pc := 16) dX11_feed_16 1 rfl ?_
    refine rhF.callV (pc := 17) (ci := 11) (embc := rhe1U _) [rhI _] dX11_feed_17 ml_X11_77 mv_X11_putBytes ⟨_, rfl, rfl⟩ h1 (c_X11_putBytes _ _ _ _ _) (by decide) (by decide) rfl (Nat.le_of_ble_eq_true rfl) (fun r3 _ => ?_)
    refine rhF.aload_n (pc := 20) dX11_feed_20 0 rfl ?_
    refine rhF.iload_n (pc := 21) dX11_feed_21 2 rfl ?_
    refine rhF.callV (pc := 22) (ci := 11) (embc := rhe1U _) [rhI _] dX11_feed_22 ml_X11_77 mv_X11_putBytes ⟨_, rfl, rfl⟩ h1 (c_X11_putBytes _ _ _ _ _) (by decide) (by decide) rfl (Nat.le_of_ble_eq_true rfl) (fun r4 _ => ?_)
    refine rhF.aload_n (pc := 25) dX11_feed_25 0 rfl ?_
    refine rhF.iload_n (pc := 26) dX11_feed_26 3 rfl ?_
    refine rhF.callV (pc := 27) (ci := 11) (embc := rhe1U _) [rhI _] dX11_feed_27 ml_X11_77 mv_X11_putBytes ⟨_, rfl, rfl⟩ h1 (c_X11_putBytes _ _ _ _ _) (by decide) (by decide) rfl (Nat.le_of_ble_eq_true rfl) (fun r5 _ => ?_)
    refine rhF.aload_n (pc := 30) dX11_feed_30 0 rfl ?_
    refine rhF.iload (pc := 31) dX11_feed_31 4 rfl ?_
    refine rhF.callV (pc := 33) (ci := 11) (embc := rhe1U _) [rhI _] dX11_feed_33 ml_X11_77 mv_X11_putBytes ⟨_, rfl, rfl⟩ h1 (c_X11_putBytes _ _ _ _ _) (by decide) (by decide) rfl (Nat.le_of_ble_eq_true rfl) (fun r6 _ => ?_)
    refine rhF.aload_n (pc := 36) dX11_feed_36 0 rfl ?_
    refine rhF.iload (pc := 37) dX11_feed_37 5 rfl ?_
    refine rhF.callV (pc := 39) (ci := 11) (embc := rhe1U _) [rhI _] dX11_feed_39 ml_X11_77 mv_X11_putBytes ⟨_, rfl, rfl⟩ h1 (c_X11_putBytes _ _ _ _ _) (by decide) (by decide) rfl (Nat.le_of_ble_eq_true rfl) (fun r7 _ => ?_)
    refine rhF.aload_n (pc := 42) dX11_feed_42 0 rfl ?_
    refine rhF.get (pc := 43) (rhI _) dX11_feed_43 fl_X11_73 h1 rfl ?_
    exact rhF.zret (pc := 46) dX11_feed_46 rfl rfl rfl
theorem c_X11_feed (E : rhE) (Γ : rhG) (M : rhM) (v0 : Nat) (v1 : Int32) (v2 : Int32) (v3 : Int32) (v4 : Int32) (v5 : Int32) : ∀ a, f_X11_feed Γ M v0 v1 v2 v3 v4 v5 = some a → rhC E 5 yX11_feed cX11_feed 6 (some .int) [rhR v0, rhI v1, rhI v2, rhI v3, rhI v4, rhI v5] Γ M ((rhe1I Γ) a) := rhF.met (by decide +kernel) (Nat.le_of_ble_eq_true rfl) (b_X11_feed M v0 v1 v2 v3 v4 v5)
def f_X11_isSpent (Γ : rhG) (M : rhM) (v0 : Nat) : Option (Int32) :=
  rhck (Γ.2.2.1 v0 = 12) <|
  rhck (Γ.2.2.1 (M.2.2 v0 3) = 10) <|
  if 6 < (M.1 (M.2.2 v0 3) 1) then
    (some 1)
  else
    if 4 < (M.1 (M.2.2 v0 3) 0) then
      (some 1)
    else
      some 0
set_option maxHeartbeats 4000000 in
set_option maxRecDepth 100000 in
theorem b_X11_isSpent {E : rhE} {Γ : rhG} {M : rhM} : ∀ (v0 : Nat), rhF E 1 1 yX11_isSpent cX11_isSpent (some .boolean) Γ (rhe0I Γ M) (f_X11_isSpent Γ M v0) 0 [(0, rhR v0)] [] Γ M := by
  intro v0
  rw [f_X11_isSpent]
  refine rhF.aload_n (pc := 0) dX11_isSpent_0 0 rfl ?_
  refine rhF.ck (fun h1 => ?_)
  refine rhF.get (pc := 1) (rhR _) dX11_isSpent_1 fl_X11_23 h1 rfl ?_
  refine rhF.ck (fun h2 => ?_)
  refine rhF.get (pc := 4) (rhI _) dX11_isSpent_4 fl_X11_84 h2 rfl ?_
  refine rhF.bipush (pc := 7) (v := 6) dX11_isSpent_7 (by decide) ?_
  refine rhF.icmp_gt (pc := 9) 23 dX11_isSpent_9 (by decide) (fun h3 => ?_) (fun h3 => ?_)
  · refine rhF.iconst (pc := 23) (v := 1) dX11_isSpent_23 (by decide) ?_
    refine rhF.goto (pc := 24) 28 dX11_isSpent_24 (by decide) ?_
    exact rhF.zret (pc := 28) dX11_isSpent_28 rfl rfl rfl
  · refine rhF.aload_n (pc := 12) dX11_isSpent_12 0 rfl ?_
    refine rhF.get (pc := 13) (rhR _) dX11_isSpent_13 fl_X11_23 h1 rfl ?_
    refine rhF.get (pc := 16) (rhI _) dX11_isSpent_16 fl_X11_141 h2 rfl ?_
    refine rhF.iconst (pc := 19) (v := 4) dX11_isSpent_19 (by decide) ?_
    refine rhF.icmp_le (pc := 20) 27 dX11_isSpent_20 (by decide) (fun h4 => ?_) (fun h4 => ?_)
    · refine rhF.iconst (pc := 23) (v := 1) dX11_isSpent_23 (by decide) ?_
      refine rhF.goto (pc := 24) 28 dX11_isSpent_24 (by decide) ?_
      exact rhF.zret (pc := 28) dX11_isSpent_28 rfl rfl rfl
    · refine rhF.iconst (pc := 27) (v := 0) dX11_isSpent_27 (by decide) ?_
      exact rhF.zret (pc := 28) dX11_isSpent_28 rfl rfl rfl
theorem c_X11_isSpent (E : rhE) (Γ : rhG) (M : rhM) (v0 : Nat) : ∀ a, f_X11_isSpent Γ M v0 = some a → rhC E 1 yX11_isSpent cX11_isSpent 1 (some .boolean) [rhR v0] Γ M ((rhe0I Γ M) a) := rhF.met (by decide +kernel) (Nat.le_of_ble_eq_true rfl) (b_X11_isSpent v0)
def f_X11_lay (Γ : rhG) (M : rhM) (v0 : Nat) (v1 : Int32) : Option (Int32 × rhG × rhM) :=
  if v1 = ((-1)) then
    (some (((-1), Γ, M)))
  else
    rhck (Γ.2.2.1 v0 = 12) <|
    rhck (Γ.2.2.1 (M.2.2 v0 15) = 6) <|
    (f_X5_copyRow Γ M (M.2.2 v0 15) v1 (M.2.2 v0 9)).bind fun r4 =>
    rhck (r4.1.2.2.1 v0 = 12) <|
    rhck (r4.1.2.2.1 (r4.2.2.2 v0 9) = 4) <|
    some ((r4.2.1 (r4.2.2.2 v0 9) 1, r4.1, r4.2))
set_option maxHeartbeats 4000000 in
set_option maxRecDepth 100000 in
theorem b_X11_lay {E : rhE} {Γ0 : rhG} : ∀ (Γ : rhG) (M : rhM) (v0 : Nat) (v1 : Int32), rhF E 8 2 yX11_lay cX11_lay (some .int) Γ0 rhe2I (f_X11_lay Γ M v0 v1) 0 [(0, rhR v0), (1, rhI v1)] [] Γ M := by
  intro Γ M v0 v1
  rw [f_X11_lay]
  refine rhF.iload_n (pc := 0) dX11_lay_0 1 rfl ?_
  refine rhF.iconst (pc := 1) (v := (-1)) dX11_lay_1 (by decide) ?_
  refine rhF.icmp_ne (pc := 2) 7 dX11_lay_2 (by decide) (fun h1 => ?_) (fun h1 => ?_)
  · refine rhF.iconst (pc := 5) (v := (-1)) dX11_lay_5 (by decide) ?_
    exact rhF.zret (pc := 6) dX11_lay_6 rfl rfl rfl
  · refine rhF.aload_n (pc := 7) dX11_lay_7 0 rfl ?_
    refine rhF.ck (fun h2 => ?_)
    refine rhF.get (pc := 8) (rhR _) dX11_lay_8 fl_X11_228 h2 rfl ?_
    refine rhF.iload_n (pc := 11) dX11_lay_11 1 rfl ?_
    refine rhF.aload_n (pc := 12) dX11_lay_12 0 rfl ?_
    refine rhF.get (pc := 13) (rhR _) dX11_lay_13 fl_X11_52 h2 rfl ?_
    refine rhF.ck (fun h3 => ?_)
    refine rhF.callV (pc := 16) (ci := 5) (embc := rhe2U) [rhI _, rhR _] dX11_lay_16 ml_X11_276 mv_X5_copyRow ⟨_, rfl, rfl⟩ h3 (c_X5_copyRow _ _ _ _ _ _) (by decide) (by decide) rfl (Nat.le_of_ble_eq_true rfl) (fun r4 _ => ?_)
    refine rhF.aload_n (pc := 19) dX11_lay_19 0 rfl ?_
    refine rhF.ck (fun h5 => ?_)
    refine rhF.get (pc := 20) (rhR _) dX11_lay_20 fl_X11_52 h5 rfl ?_
    refine rhF.ck (fun h6 => ?_)
    refine rhF.get (pc := 23) (rhI _) dX11_lay_23 fl_X11_184 h6 rfl ?_
    exact rhF.zret (pc := 26) dX11_lay_26 rfl rfl rfl
theorem c_X11_lay (E : rhE) (Γ : rhG) (M : rhM) (v0 : Nat) (v1 : Int32) : ∀ a, f_X11_lay Γ M v0 v1 = some a → rhC E 8 yX11_lay cX11_lay 2 (some .int) [rhR v0, rhI v1] Γ M (rhe2I a) := rhF.met (by decide +kernel) (Nat.le_of_ble_eq_true rfl) (b_X11_lay (Γ0 := Γ) Γ M v0 v1)
def f_X11_readySearch_18 (Γ : rhG) (M : rhM) (v0 : Nat) : Option (rhG × rhM) :=
  rhck (Γ.2.2.1 v0 = 12) <|
  rhck (Γ.2.2.1 (M.2.2 v0 3) = 10) <|
  (f_X9_states Γ M (M.2.2 v0 3)).bind fun r11 =>
  rhck (Γ.2.2.1 (M.2.2 v0 15) = 6) <|
  (f_X5_widen Γ M (M.2.2 v0 15) r11).bind fun r13 =>
  some (r13.1, r13.2)
def f_X11_readySearch (Γ : rhG) (M : rhM) (v0 : Nat) : Option (rhG × rhM) :=
  rhck (Γ.2.2.1 v0 = 12) <|
  if (M.2.2 v0 15) = 0 then
    (let M4 := rhmn M (nu (Γ.1 + 1))
    let G3 := rhgn Γ 6 0 11
    rhck (G3.2.2.1 ((nu (Γ.1 + 1))) = 6) <|
    (f_X5_init G3 M4 ((nu (Γ.1 + 1)))).bind fun r6 =>
    rhck (r6.1.2.2.1 v0 = 12) <|
    let M8 := rhsr r6.2 v0 15 ((nu (Γ.1 + 1)))
    f_X11_readySearch_18 r6.1 M8 v0)
  else
    f_X11_readySearch_18 Γ M v0
set_option maxHeartbeats 4000000 in
set_option maxRecDepth 100000 in
theorem b_X11_readySearch_18 {E : rhE} {Γ0 : rhG} : ∀ (Γ : rhG) (M : rhM) (v0 : Nat), rhF E 7 1 yX11_readySearch cX11_readySearch none Γ0 rhe2U (f_X11_readySearch_18 Γ M v0) 18 [(0, rhR v0)] [] Γ M := by
  intro Γ M v0
  rw [f_X11_readySearch_18]
  refine rhF.aload_n (pc := 18) dX11_readySearch_18 0 rfl ?_
  refine rhF.ck (fun h9 => ?_)
  refine rhF.get (pc := 19) (rhR _) dX11_readySearch_19 fl_X11_228 h9 rfl ?_
  refine rhF.aload_n (pc := 22) dX11_readySearch_22 0 rfl ?_
  refine rhF.get (pc := 23) (rhR _) dX11_readySearch_23 fl_X11_23 h9 rfl ?_
  refine rhF.ck (fun h10 => ?_)
  refine rhF.callV (pc := 26) (ci := 9) (embc := rhe0I _ _) [] dX11_readySearch_26 ml_X11_269 mv_X9_states ⟨_, rfl, rfl⟩ h10 (c_X9_states _ _ _ _) (by decide) (by decide) rfl (Nat.le_of_ble_eq_true rfl) (fun r11 _ => ?_)
  refine rhF.ck (fun h12 => ?_)
  refine rhF.callV (pc := 29) (ci := 5) (embc := rhe2U) [rhI _] dX11_readySearch_29 ml_X11_273 mv_X5_widen ⟨_, rfl, rfl⟩ h12 (c_X5_widen _ _ _ _ _) (by decide) (by decide) rfl (Nat.le_of_ble_eq_true rfl) (fun r13 _ => ?_)
  exact rhF.vret (pc := 32) dX11_readySearch_32 rfl rfl
set_option maxHeartbeats 4000000 in
set_option maxRecDepth 100000 in
theorem b_X11_readySearch {E : rhE} {Γ0 : rhG} : ∀ (Γ : rhG) (M : rhM) (v0 : Nat), rhF E 7 1 yX11_readySearch cX11_readySearch none Γ0 rhe2U (f_X11_readySearch Γ M v0) 0 [(0, rhR v0)] [] Γ M := by
  intro Γ M v0
  rw [f_X11_readySearch]
  refine rhF.aload_n (pc := 0) dX11_readySearch_0 0 rfl ?_
  refine rhF.ck (fun h1 => ?_)
  refine rhF.get (pc := 1) (rhR _) dX11_readySearch_1 fl_X11_228 h1 rfl ?_
  refine rhF.ifnonnull (pc := 4) 18 dX11_readySearch_4 (by decide) (fun h2 => ?_) (fun h2 => ?_)
  · refine rhF.aload_n (pc := 7) dX11_readySearch_7 0 rfl ?_
    refine rhF.new (pc := 8) (ci := 5) dX11_readySearch_8 nw_X11_233 ?_
    refine rhF.dupr (pc := 11) dX11_readySearch_11 ?_
    refine rhF.ck (fun h5 => ?_)
    refine rhF.callIN (pc := 12) (embc := rhe2U) "RailHouses" [] dX11_readySearch_12 (by decide +kernel) ne_X11_268 mi_X5_init (fun z => absurd (h5.symm.trans z) (by decide)) (c_X5_init _ _ _ _) (by decide) (by decide) rfl (Nat.le_of_ble_eq_true rfl) (fun r6 _ => ?_)
    refine rhF.ck (fun h7 => ?_)
    refine rhF.putr (pc := 15) dX11_readySearch_15 fl_X11_228 h7 (fun q hq => by cases hq; exact Or.inl rfl) (Or.inl ⟨_, rfl⟩) (fun _ => rfl) ?_
    exact (b_X11_readySearch_18) _ _ _
  · exact (b_X11_readySearch_18) _ _ _
theorem c_X11_readySearch (E : rhE) (Γ : rhG) (M : rhM) (v0 : Nat) : ∀ a, f_X11_readySearch Γ M v0 = some a → rhC E 7 yX11_readySearch cX11_readySearch 1 none [rhR v0] Γ M (rhe2U a) := rhF.met (by decide +kernel) (Nat.le_of_ble_eq_true rfl) (b_X11_readySearch (Γ0 := Γ) Γ M v0)
def f_X11_fewest (Γ : rhG) (M : rhM) (v0 : Nat) : Option (Int32 × rhG × rhM) :=
  rhck (Γ.2.2.1 v0 = 12) <|
  rhck (Γ.2.2.1 (M.2.2 v0 9) = 4) <|
  (f_X3_clear Γ M (M.2.2 v0 9)).bind fun r3 =>
  (f_X11_isSpent Γ r3 v0).bind fun r4 =>
  if r4 = 0 then
    ((f_X11_readySearch Γ r3 v0).bind fun r6 =>
    rhck (r6.1.2.2.1 v0 = 12) <|
    rhck (r6.1.2.2.1 (r6.2.2.2 v0 15) = 6) <|
    (f_X5_seekRow r6.1 r6.2 (r6.2.2.2 v0 15) (r6.2.2.1 v0 10) (r6.2.1 v0 11)).bind fun r9 =>
    rhck (r6.1.2.2.1 (r9.2.2 v0 5) = 8) <|
    rhck (r6.1.2.2.1 (r9.2.2 v0 15) = 6) <|
    (f_X5_spread r6.1 r9 (r9.2.2 v0 15) (r9.2.2 v0 3) (r9.2.1 (r9.2.2 v0 5) 0) (1000000 : Int32)).bind fun r12 =>
    (f_X11_lay r6.1 r12.2 v0 r12.1).bind fun r13 =>
    some ((r13.1, r13.2.1, r13.2.2)))
  else
    some (((-2), Γ, r3))
set_option maxHeartbeats 4000000 in
set_option maxRecDepth 100000 in
theorem b_X11_fewest {E : rhE} {Γ0 : rhG} : ∀ (Γ : rhG) (M : rhM) (v0 : Nat), rhF E 11 1 yX11_fewest cX11_fewest (some .int) Γ0 rhe2I (f_X11_fewest Γ M v0) 0 [(0, rhR v0)] [] Γ M := by
  intro Γ M v0
  rw [f_X11_fewest]
  refine rhF.aload_n (pc := 0) dX11_fewest_0 0 rfl ?_
  refine rhF.ck (fun h1 => ?_)
  refine rhF.get (pc := 1) (rhR _) dX11_fewest_1 fl_X11_52 h1 rfl ?_
  refine rhF.ck (fun h2 => ?_)
  refine rhF.callV (pc := 4) (ci := 3) (embc := rhe1U _) [] dX11_fewest_4 ml_X11_95 mv_X3_clear ⟨_, rfl, rfl⟩ h2 (c_X3_clear _ _ _ _) (by decide) (by decide) rfl (Nat.le_of_ble_eq_true rfl) (fun r3 _ => ?_)
  refine rhF.aload_n (pc := 7) dX11_fewest_7 0 rfl ?_
  refine rhF.callV (pc := 8) (ci := 11) (embc := rhe0I _ _) [] dX11_fewest_8 ml_X11_221 mv_X11_isSpent ⟨_, rfl, rfl⟩ h1 (c_X11_isSpent _ _ _ _) (by decide) (by decide) rfl (Nat.le_of_ble_eq_true rfl) (fun r4 _ => ?_)
  refine rhF.if_eq (pc := 11) 17 dX11_fewest_11 (by decide) (fun h5 => ?_) (fun h5 => ?_)
  · refine rhF.aload_n (pc := 17) dX11_fewest_17 0 rfl ?_
    refine rhF.callV (pc := 18) (ci := 11) (embc := rhe2U) [] dX11_fewest_18 ml_X11_225 mv_X11_readySearch ⟨_, rfl, rfl⟩ h1 (c_X11_readySearch _ _ _ _) (by decide) (by decide) rfl (Nat.le_of_ble_eq_true rfl) (fun r6 _ => ?_)
    refine rhF.aload_n (pc := 21) dX11_fewest_21 0 rfl ?_
    refine rhF.ck (fun h7 => ?_)
    refine rhF.get (pc := 22) (rhR _) dX11_fewest_22 fl_X11_228 h7 rfl ?_
    refine rhF.aload_n (pc := 25) dX11_fewest_25 0 rfl ?_
    refine rhF.get (pc := 26) (rhJ _) dX11_fewest_26 fl_X11_98 h7 rfl ?_
    refine rhF.aload_n (pc := 29) dX11_fewest_29 0 rfl ?_
    refine rhF.get (pc := 30) (rhI _) dX11_fewest_30 fl_X11_101 h7 rfl ?_
    refine rhF.ck (fun h8 => ?_)
    refine rhF.callV (pc := 33) (ci := 5) (embc := rhe1U _) [rhJ _, rhI _] dX11_fewest_33 ml_X11_232 mv_X5_seekRow ⟨_, rfl, rfl⟩ h8 (c_X5_seekRow _ _ _ _ _ _) (by decide) (by decide) rfl (Nat.le_of_ble_eq_true rfl) (fun r9 _ => ?_)
    refine rhF.aload_n (pc := 36) dX11_fewest_36 0 rfl ?_
    refine rhF.aload_n (pc := 37) dX11_fewest_37 0 rfl ?_
    refine rhF.get (pc := 38) (rhR _) dX11_fewest_38 fl_X11_228 h7 rfl ?_
    refine rhF.aload_n (pc := 41) dX11_fewest_41 0 rfl ?_
    refine rhF.get (pc := 42) (rhR _) dX11_fewest_42 fl_X11_23 h7 rfl ?_
    refine rhF.aload_n (pc := 45) dX11_fewest_45 0 rfl ?_
    refine rhF.get (pc := 46) (rhR _) dX11_fewest_46 fl_X11_33 h7 rfl ?_
    refine rhF.ck (fun h10 => ?_)
    refine rhF.get (pc := 49) (rhJ _) dX11_fewest_49 fl_X11_207 h10 rfl ?_
    refine rhF.ldc (pc := 52) dX11_fewest_52 k_X11_238 ?_
    refine rhF.ck (fun h11 => ?_)
    refine rhF.callV (pc := 54) (ci := 5) (embc := rhe1I _) [rhR _, rhJ _, rhI _] dX11_fewest_54 ml_X11_239 mv_X5_spread ⟨_, rfl, rfl⟩ h11 (c_X5_spread _ _ _ _ _ _ _) (by decide) (by decide) rfl (Nat.le_of_ble_eq_true rfl) (fun r12 _ => ?_)
    refine rhF.callV (pc := 57) (ci := 11) (embc := rhe2I) [rhI _] dX11_fewest_57 ml_X11_243 mv_X11_lay ⟨_, rfl, rfl⟩ h7 (c_X11_lay _ _ _ _ _) (by decide) (by decide) rfl (Nat.le_of_ble_eq_true rfl) (fun r13 _ => ?_)
    exact rhF.zret (pc := 60) dX11_fewest_60 rfl rfl rfl
  · refine rhF.bipush (pc := 14) (v := (-2)) dX11_fewest_14 (by decide) ?_
    exact rhF.zret (pc := 16) dX11_fewest_16 rfl rfl rfl
theorem c_X11_fewest (E : rhE) (Γ : rhG) (M : rhM) (v0 : Nat) : ∀ a, f_X11_fewest Γ M v0 = some a → rhC E 11 yX11_fewest cX11_fewest 1 (some .int) [rhR v0] Γ M (rhe2I a) := rhF.met (by decide +kernel) (Nat.le_of_ble_eq_true rfl) (b_X11_fewest (Γ0 := Γ) Γ M v0)
def f_X11_fits (Γ : rhG) (M : rhM) (v0 : Nat) (v1 : Int32) (v2 : Int32) : Option (Int32 × rhM) :=
  if v1 < 0 then
    (some (((-1), M)))
  else
    if 3 < v1 then
      (some (((-1), M)))
    else
      rhck (Γ.2.2.1 v0 = 12) <|
      rhck (Γ.2.2.1 (M.2.2 v0 14) = 7) <|
      (f_X6_count Γ M (M.2.2 v0 14) (M.2.2 v0 3) v1 v2).bind fun r5 =>
      rhck (Γ.2.2.1 (r5.2.2 v0 14) = 7) <|
      rhck (Γ.2.2.1 (r5.2.2 (r5.2.2 v0 14) 13) = 15) <|
      rhck (0 ≤ (v1).toInt ∧ (v1).toInt < (Γ.2.2.2 (r5.2.2 (r5.2.2 v0 14) 13) : Nat)) <|
      some ((r5.1 (r5.2.2 (r5.2.2 v0 14) 13) v1.toNatClampNeg, r5))
set_option maxHeartbeats 4000000 in
set_option maxRecDepth 100000 in
theorem b_X11_fits {E : rhE} {Γ : rhG} : ∀ (M : rhM) (v0 : Nat) (v1 : Int32) (v2 : Int32), rhF E 71 3 yX11_fits cX11_fits (some .int) Γ (rhe1I Γ) (f_X11_fits Γ M v0 v1 v2) 0 [(0, rhR v0), (1, rhI v1), (2, rhI v2)] [] Γ M := by
  intro M v0 v1 v2
  rw [f_X11_fits]
  refine rhF.iload_n (pc := 0) dX11_fits_0 1 rfl ?_
  refine rhF.if_lt (pc := 1) 9 dX11_fits_1 (by decide) (fun h1 => ?_) (fun h1 => ?_)
  · refine rhF.iconst (pc := 9) (v := (-1)) dX11_fits_9 (by decide) ?_
    exact rhF.zret (pc := 10) dX11_fits_10 rfl rfl rfl
  · refine rhF.iload_n (pc := 4) dX11_fits_4 1 rfl ?_
    refine rhF.iconst (pc := 5) (v := 3) dX11_fits_5 (by decide) ?_
    refine rhF.icmp_le (pc := 6) 11 dX11_fits_6 (by decide) (fun h2 => ?_) (fun h2 => ?_)
    · refine rhF.iconst (pc := 9) (v := (-1)) dX11_fits_9 (by decide) ?_
      exact rhF.zret (pc := 10) dX11_fits_10 rfl rfl rfl
    · refine rhF.aload_n (pc := 11) dX11_fits_11 0 rfl ?_
      refine rhF.ck (fun h3 => ?_)
      refine rhF.get (pc := 12) (rhR _) dX11_fits_12 fl_X11_66 h3 rfl ?_
      refine rhF.aload_n (pc := 15) dX11_fits_15 0 rfl ?_
      refine rhF.get (pc := 16) (rhR _) dX11_fits_16 fl_X11_23 h3 rfl ?_
      refine rhF.iload_n (pc := 19) dX11_fits_19 1 rfl ?_
      refine rhF.iload_n (pc := 20) dX11_fits_20 2 rfl ?_
      refine rhF.ck (fun h4 => ?_)
      refine rhF.callV (pc := 21) (ci := 6) (embc := rhe1U _) [rhR _, rhI _, rhI _] dX11_fits_21 ml_X11_290 mv_X6_count ⟨_, rfl, rfl⟩ h4 (c_X6_count _ _ _ _ _ _ _) (by decide) (by decide) rfl (Nat.le_of_ble_eq_true rfl) (fun r5 _ => ?_)
      refine rhF.aload_n (pc := 24) dX11_fits_24 0 rfl ?_
      refine rhF.get (pc := 25) (rhR _) dX11_fits_25 fl_X11_66 h3 rfl ?_
      refine rhF.ck (fun h6 => ?_)
      refine rhF.get (pc := 28) (rhR _) dX11_fits_28 fl_X11_293 h6 rfl ?_
      refine rhF.iload_n (pc := 31) dX11_fits_31 1 rfl ?_
      refine rhF.ck (fun h7 => ?_)
      refine rhF.ck (fun h8 => ?_)
      refine rhF.iald (pc := 32) dX11_fits_32 h7 h8 ?_
      exact rhF.zret (pc := 33) dX11_fits_33 rfl rfl rfl
theorem c_X11_fits (E : rhE) (Γ : rhG) (M : rhM) (v0 : Nat) (v1 : Int32) (v2 : Int32) : ∀ a, f_X11_fits Γ M v0 v1 v2 = some a → rhC E 71 yX11_fits cX11_fits 3 (some .int) [rhR v0, rhI v1, rhI v2] Γ M ((rhe1I Γ) a) := rhF.met (by decide +kernel) (Nat.le_of_ble_eq_true rfl) (b_X11_fits M v0 v1 v2)
def f_X11_free (Γ : rhG) (M : rhM) (v0 : Nat) (v1 : Int32) : Option (Int32 × rhG × rhM) :=
  rhck (Γ.2.2.1 v0 = 12) <|
  rhck (Γ.2.2.1 (M.2.2 v0 9) = 4) <|
  (f_X3_clear Γ M (M.2.2 v0 9)).bind fun r3 =>
  (f_X11_isHouse Γ r3 v0 v1).bind fun r4 =>
  if r4 = 0 then
    (some (((-1), Γ, r3)))
  else
    (f_X11_isSpent Γ r3 v0).bind fun r6 =>
    if r6 = 0 then
      ((f_X11_readySearch Γ r3 v0).bind fun r8 =>
      rhck (r8.1.2.2.1 v0 = 12) <|
      rhck (r8.1.2.2.1 (r8.2.2.2 v0 15) = 6) <|
      (f_X5_seekAlone r8.1 r8.2 (r8.2.2.2 v0 15) v1).bind fun r11 =>
      rhck (r8.1.2.2.1 (r11.2.2 v0 5) = 8) <|
      rhck (r8.1.2.2.1 (r11.2.2 v0 15) = 6) <|
      (f_X5_spread r8.1 r11 (r11.2.2 v0 15) (r11.2.2 v0 3) (r11.2.1 (r11.2.2 v0 5) 0) (1000000 : Int32)).bind fun r14 =>
      (f_X11_lay r8.1 r14.2 v0 r14.1).bind fun r15 =>
      some ((r15.1, r15.2.1, r15.2.2)))
    else
      some (((-2), Γ, r3))
set_option maxHeartbeats 4000000 in
set_option maxRecDepth 100000 in
theorem b_X11_free {E : rhE} {Γ0 : rhG} : ∀ (Γ : rhG) (M : rhM) (v0 : Nat) (v1 : Int32), rhF E 11 2 yX11_free cX11_free (some .int) Γ0 rhe2I (f_X11_free Γ M v0 v1) 0 [(0, rhR v0), (1, rhI v1)] [] Γ M := by
  intro Γ M v0 v1
  rw [f_X11_free]
  refine rhF.aload_n (pc := 0) dX11_free_0 0 rfl ?_
  refine rhF.ck (fun h1 => ?_)
  refine rhF.get (pc := 1) (rhR _) dX11_free_1 fl_X11_52 h1 rfl ?_
  refine rhF.ck (fun h2 => ?_)
  refine rhF.callV (pc := 4) (ci := 3) (embc := rhe1U _) [] dX11_free_4 ml_X11_95 mv_X3_clear ⟨_, rfl, rfl⟩ h2 (c_X3_clear _ _ _ _) (by decide) (by decide) rfl (Nat.le_of_ble_eq_true rfl) (fun r3 _ => ?_)
  refine rhF.aload_n (pc := 7) dX11_free_7 0 rfl ?_
  refine rhF.iload_n (pc := 8) dX11_free_8 1 rfl ?_
  refine rhF.callV (pc := 9) (ci := 11) (embc := rhe0I _ _) [rhI _] dX11_free_9 ml_X11_125 mv_X11_isHouse ⟨_, rfl, rfl⟩ h1 (c_X11_isHouse _ _ _ _ _) (by decide) (by decide) rfl (Nat.le_of_ble_eq_true rfl) (fun r4 _ => ?_)
  refine rhF.if_ne (pc := 12) 17 dX11_free_12 (by decide) (fun h5 => ?_) (fun h5 => ?_)
  · refine rhF.iconst (pc := 15) (v := (-1)) dX11_free_15 (by decide) ?_
    exact rhF.zret (pc := 16) dX11_free_16 rfl rfl rfl
  · refine rhF.aload_n (pc := 17) dX11_free_17 0 rfl ?_
    refine rhF.callV (pc := 18) (ci := 11) (embc := rhe0I _ _) [] dX11_free_18 ml_X11_221 mv_X11_isSpent ⟨_, rfl, rfl⟩ h1 (c_X11_isSpent _ _ _ _) (by decide) (by decide) rfl (Nat.le_of_ble_eq_true rfl) (fun r6 _ => ?_)
    refine rhF.if_eq (pc := 21) 27 dX11_free_21 (by decide) (fun h7 => ?_) (fun h7 => ?_)
    · refine rhF.aload_n (pc := 27) dX11_free_27 0 rfl ?_
      refine rhF.callV (pc := 28) (ci := 11) (embc := rhe2U) [] dX11_free_28 ml_X11_225 mv_X11_readySearch ⟨_, rfl, rfl⟩ h1 (c_X11_readySearch _ _ _ _) (by decide) (by decide) rfl (Nat.le_of_ble_eq_true rfl) (fun r8 _ => ?_)
      refine rhF.aload_n (pc := 31) dX11_free_31 0 rfl ?_
      refine rhF.ck (fun h9 => ?_)
      refine rhF.get (pc := 32) (rhR _) dX11_free_32 fl_X11_228 h9 rfl ?_
      refine rhF.iload_n (pc := 35) dX11_free_35 1 rfl ?_
      refine rhF.ck (fun h10 => ?_)
      refine rhF.callV (pc := 36) (ci := 5) (embc := rhe1U _) [rhI _] dX11_free_36 ml_X11_259 mv_X5_seekAlone ⟨_, rfl, rfl⟩ h10 (c_X5_seekAlone _ _ _ _ _) (by decide) (by decide) rfl (Nat.le_of_ble_eq_true rfl) (fun r11 _ => ?_)
      refine rhF.aload_n (pc := 39) dX11_free_39 0 rfl ?_
      refine rhF.aload_n (pc := 40) dX11_free_40 0 rfl ?_
      refine rhF.get (pc := 41) (rhR _) dX11_free_41 fl_X11_228 h9 rfl ?_
      refine rhF.aload_n (pc := 44) dX11_free_44 0 rfl ?_
      refine rhF.get (pc := 45) (rhR _) dX11_free_45 fl_X11_23 h9 rfl ?_
      refine rhF.aload_n (pc := 48) dX11_free_48 0 rfl ?_
      refine rhF.get (pc := 49) (rhR _) dX11_free_49 fl_X11_33 h9 rfl ?_
      refine rhF.ck (fun h12 => ?_)
      refine rhF.get (pc := 52) (rhJ _) dX11_free_52 fl_X11_207 h12 rfl ?_
      refine rhF.ldc (pc := 55) dX11_free_55 k_X11_238 ?_
      refine rhF.ck (fun h13 => ?_)
      refine rhF.callV (pc := 57) (ci := 5) (embc := rhe1I _) [rhR _, rhJ _, rhI _] dX11_free_57 ml_X11_239 mv_X5_spread ⟨_, rfl, rfl⟩ h13 (c_X5_spread _ _ _ _ _ _ _) (by decide) (by decide) rfl (Nat.le_of_ble_eq_true rfl) (fun r14 _ => ?_)
      refine rhF.callV (pc := 60) (ci := 11) (embc := rhe2I) [rhI _] dX11_free_60 ml_X11_243 mv_X11_lay ⟨_, rfl, rfl⟩ h9 (c_X11_lay _ _ _ _ _) (by decide) (by decide) rfl (Nat.le_of_ble_eq_true rfl) (fun r15 _ => ?_)
      exact rhF.zret (pc := 63) dX11_free_63 rfl rfl rfl
    · refine rhF.bipush (pc := 24) (v := (-2)) dX11_free_24 (by decide) ?_
      exact rhF.zret (pc := 26) dX11_free_26 rfl rfl rfl
theorem c_X11_free (E : rhE) (Γ : rhG) (M : rhM) (v0 : Nat) (v1 : Int32) : ∀ a, f_X11_free Γ M v0 v1 = some a → rhC E 11 yX11_free cX11_free 2 (some .int) [rhR v0, rhI v1] Γ M (rhe2I a) := rhF.met (by decide +kernel) (Nat.le_of_ble_eq_true rfl) (b_X11_free (Γ0 := Γ) Γ M v0 v1)
def f_X11_isInGoal_2 (Γ : rhG) (M : rhM) : Nat → Nat → Int32 → Int32 → Option (Int32)
  | 0, _, _, _ => none
  | n + 1, v0, v1, v2 =>
    rhck (Γ.2.2.1 v0 = 12) <|
    if v2 < (M.1 v0 11) then
      ((f_X7_digitOf Γ M (M.2.1 v0 10) v2).bind fun r3 =>
      if r3 = v1 then
        (some 1)
      else
        let x5 : Int32 := v2 + 1
        f_X11_isInGoal_2 Γ M n v0 v1 x5)
    else
      some 0
def f_X11_isInGoal (Γ : rhG) (M : rhM) (v0 : Nat) (v1 : Int32) : Option (Int32) :=
  f_X11_isInGoal_2 Γ M rhFU v0 v1 0
set_option maxHeartbeats 4000000 in
set_option maxRecDepth 100000 in
theorem b_X11_isInGoal_2 {E : rhE} {Γ : rhG} {M : rhM} : ∀ (n : Nat) (v0 : Nat) (v1 : Int32) (v2 : Int32), rhF E 5 3 yX11_isInGoal cX11_isInGoal (some .boolean) Γ (rhe0I Γ M) (f_X11_isInGoal_2 Γ M n v0 v1 v2) 2 [(0, rhR v0), (1, rhI v1), (2, rhI v2)] [] Γ M := by
  intro n
  induction n with
  | zero => intro v0 v1 v2; rw [f_X11_isInGoal_2]; exact rhF.nope
  | succ n ih =>
    intro v0 v1 v2
    rw [f_X11_isInGoal_2]
    refine rhF.iload_n (pc := 2) dX11_isInGoal_2 2 rfl ?_
    refine rhF.aload_n (pc := 3) dX11_isInGoal_3 0 rfl ?_
    refine rhF.ck (fun h1 => ?_)
    refine rhF.get (pc := 4) (rhI _) dX11_isInGoal_4 fl_X11_101 h1 rfl ?_
    refine rhF.icmp_ge (pc := 7) 30 dX11_isInGoal_7 (by decide) (fun h2 => ?_) (fun h2 => ?_)
    · refine rhF.aload_n (pc := 10) dX11_isInGoal_10 0 rfl ?_
      refine rhF.get (pc := 11) (rhJ _) dX11_isInGoal_11 fl_X11_98 h1 rfl ?_
      refine rhF.iload_n (pc := 14) dX11_isInGoal_14 2 rfl ?_
      refine rhF.callS (pc := 15) (embc := rhe0I _ _) [rhJ _, rhI _] dX11_isInGoal_15 ml_X11_217 ms_X7_digitOf (c_X7_digitOf _ _ _ _ _) (by decide) (by decide) rfl (Nat.le_of_ble_eq_true rfl) (fun r3 _ => ?_)
      refine rhF.iload_n (pc := 18) dX11_isInGoal_18 1 rfl ?_
      refine rhF.icmp_ne (pc := 19) 24 dX11_isInGoal_19 (by decide) (fun h4 => ?_) (fun h4 => ?_)
      · refine rhF.iconst (pc := 22) (v := 1) dX11_isInGoal_22 (by decide) ?_
        exact rhF.zret (pc := 23) dX11_isInGoal_23 rfl rfl rfl
      · refine rhF.iinc (pc := 24) (L' := [(2, rhI _), (0, rhR _), (1, rhI _)]) dX11_isInGoal_24 2 rfl rfl (by decide) rfl ?_
        refine rhF.goto (pc := 27) 2 dX11_isInGoal_27 (by decide) ?_
        refine rhF.sub [1, 2, 0] rfl ?_
        exact ih _ _ _
    · refine rhF.iconst (pc := 30) (v := 0) dX11_isInGoal_30 (by decide) ?_
      exact rhF.zret (pc := 31) dX11_isInGoal_31 rfl rfl rfl
set_option maxHeartbeats 4000000 in
set_option maxRecDepth 100000 in
theorem b_X11_isInGoal {E : rhE} {Γ : rhG} {M : rhM} : ∀ (v0 : Nat) (v1 : Int32), rhF E 5 3 yX11_isInGoal cX11_isInGoal (some .boolean) Γ (rhe0I Γ M) (f_X11_isInGoal Γ M v0 v1) 0 [(0, rhR v0), (1, rhI v1)] [] Γ M := by
  intro v0 v1
  rw [f_X11_isInGoal]
  refine rhF.iconst (pc := 0) (v := 0) dX11_isInGoal_0 (by decide) ?_
  refine rhF.istore_n (pc := 1) (L' := [(2, rhI _), (0, rhR _), (1, rhI _)]) dX11_isInGoal_1 (by decide) rfl ?_
  refine rhF.sub [1, 2, 0] rfl ?_
  exact (b_X11_isInGoal_2 rhFU) _ _ _
theorem c_X11_isInGoal (E : rhE) (Γ : rhG) (M : rhM) (v0 : Nat) (v1 : Int32) : ∀ a, f_X11_isInGoal Γ M v0 v1 = some a → rhC E 5 yX11_isInGoal cX11_isInGoal 3 (some .boolean) [rhR v0, rhI v1] Γ M ((rhe0I Γ M) a) := rhF.met (by decide +kernel) (Nat.le_of_ble_eq_true rfl) (b_X11_isInGoal v0 v1)
def f_X11_goal (Γ : rhG) (M : rhM) (v0 : Nat) (v1 : Int32) : Option (Int32 × rhM) :=
  rhck (Γ.2.2.1 v0 = 12) <|
  (f_X11_isHouse Γ M v0 v1).bind fun r2 =>
  if r2 = 0 then
    (some (((-1), M)))
  else
    (f_X11_isInGoal Γ M v0 v1).bind fun r4 =>
    if r4 = 0 then
      (if (M.1 v0 11) < 8 then
        (let M7 := rhsl M v0 10 ((M.2.1 v0 10) ||| (rhsh (Int32.toInt64 v1) (4 * (M.1 v0 11))))
        let M8 := rhsi M7 v0 11 ((M.1 v0 11) + 1)
        some ((M8.1 v0 11, M8)))
      else
        some (((-1), M)))
    else
      some (((-1), M))
set_option maxHeartbeats 4000000 in
set_option maxRecDepth 100000 in
theorem b_X11_goal {E : rhE} {Γ : rhG} : ∀ (M : rhM) (v0 : Nat) (v1 : Int32), rhF E 6 2 yX11_goal cX11_goal (some .int) Γ (rhe1I Γ) (f_X11_goal Γ M v0 v1) 0 [(0, rhR v0), (1, rhI v1)] [] Γ M := by
  intro M v0 v1
  rw [f_X11_goal]
  refine rhF.aload_n (pc := 0) dX11_goal_0 0 rfl ?_
  refine rhF.iload_n (pc := 1) dX11_goal_1 1 rfl ?_
  refine rhF.ck (fun h1 => ?_)
  refine rhF.callV (pc := 2) (ci := 11) (embc := rhe0I _ _) [rhI _] dX11_goal_2 ml_X11_125 mv_X11_isHouse ⟨_, rfl, rfl⟩ h1 (c_X11_isHouse _ _ _ _ _) (by decide) (by decide) rfl (Nat.le_of_ble_eq_true rfl) (fun r2 _ => ?_)
  refine rhF.if_eq (pc := 5) 25 dX11_goal_5 (by decide) (fun h3 => ?_) (fun h3 => ?_)
  · refine rhF.iconst (pc := 25) (v := (-1)) dX11_goal_25 (by decide) ?_
    exact rhF.zret (pc := 26) dX11_goal_26 rfl rfl rfl
  · refine rhF.aload_n (pc := 8) dX11_goal_8 0 rfl ?_
    refine rhF.iload_n (pc := 9) dX11_goal_9 1 rfl ?_
    refine rhF.callV (pc := 10) (ci := 11) (embc := rhe0I _ _) [rhI _] dX11_goal_10 ml_X11_214 mv_X11_isInGoal ⟨_, rfl, rfl⟩ h1 (c_X11_isInGoal _ _ _ _ _) (by decide) (by decide) rfl (Nat.le_of_ble_eq_true rfl) (fun r4 _ => ?_)
    refine rhF.if_ne (pc := 13) 25 dX11_goal_13 (by decide) (fun h5 => ?_) (fun h5 => ?_)
    · refine rhF.aload_n (pc := 16) dX11_goal_16 0 rfl ?_
      refine rhF.get (pc := 17) (rhI _) dX11_goal_17 fl_X11_101 h1 rfl ?_
      refine rhF.bipush (pc := 20) (v := 8) dX11_goal_20 (by decide) ?_
      refine rhF.icmp_lt (pc := 22) 27 dX11_goal_22 (by decide) (fun h6 => ?_) (fun h6 => ?_)
      · refine rhF.aload_n (pc := 27) dX11_goal_27 0 rfl ?_
        refine rhF.dupr (pc := 28) dX11_goal_28 ?_
        refine rhF.get (pc := 29) (rhJ _) dX11_goal_29 fl_X11_98 h1 rfl ?_
        refine rhF.iload_n (pc := 32) dX11_goal_32 1 rfl ?_
        refine rhF.i2l (pc := 33) dX11_goal_33 ?_
        refine rhF.iconst (pc := 34) (v := 4) dX11_goal_34 (by decide) ?_
        refine rhF.aload_n (pc := 35) dX11_goal_35 0 rfl ?_
        refine rhF.get (pc := 36) (rhI _) dX11_goal_36 fl_X11_101 h1 rfl ?_
        refine rhF.imul (pc := 39) dX11_goal_39 ?_
        refine rhF.lshl (pc := 40) dX11_goal_40 ?_
        refine rhF.lor (pc := 41) dX11_goal_41 ?_
        refine rhF.putl (pc := 42) dX11_goal_42 fl_X11_98 h1 (fun q hq => by cases hq; exact Or.inl rfl) ⟨rfl, rfl⟩ (fun _ => rfl) ?_
        refine rhF.aload_n (pc := 45) dX11_goal_45 0 rfl ?_
        refine rhF.dupr (pc := 46) dX11_goal_46 ?_
        refine rhF.get (pc := 47) (rhI _) dX11_goal_47 fl_X11_101 h1 rfl ?_
        refine rhF.iconst (pc := 50) (v := 1) dX11_goal_50 (by decide) ?_
        refine rhF.iadd (pc := 51) dX11_goal_51 ?_
        refine rhF.puti (pc := 52) dX11_goal_52 fl_X11_101 h1 (fun q hq => by cases hq; exact Or.inl rfl) ⟨rfl, rfl⟩ (fun _ => rfl) ?_
        refine rhF.aload_n (pc := 55) dX11_goal_55 0 rfl ?_
        refine rhF.get (pc := 56) (rhI _) dX11_goal_56 fl_X11_101 h1 rfl ?_
        exact rhF.zret (pc := 59) dX11_goal_59 rfl rfl rfl
      · refine rhF.iconst (pc := 25) (v := (-1)) dX11_goal_25 (by decide) ?_
        exact rhF.zret (pc := 26) dX11_goal_26 rfl rfl rfl
    · refine rhF.iconst (pc := 25) (v := (-1)) dX11_goal_25 (by decide) ?_
      exact rhF.zret (pc := 26) dX11_goal_26 rfl rfl rfl
theorem c_X11_goal (E : rhE) (Γ : rhG) (M : rhM) (v0 : Nat) (v1 : Int32) : ∀ a, f_X11_goal Γ M v0 v1 = some a → rhC E 6 yX11_goal cX11_goal 2 (some .int) [rhR v0, rhI v1] Γ M ((rhe1I Γ) a) := rhF.met (by decide +kernel) (Nat.le_of_ble_eq_true rfl) (b_X11_goal M v0 v1)
def f_X11_hush (Γ : rhG) (M : rhM) (v0 : Nat) : Option (Int32 × rhM) :=
  rhck (Γ.2.2.1 v0 = 12) <|
  rhck (Γ.2.2.1 (M.2.2 v0 8) = 4) <|
  let x3 := M.1 (M.2.2 v0 8) 1
  (f_X3_clear Γ M (M.2.2 v0 8)).bind fun r4 =>
  some ((x3, r4))
set_option maxHeartbeats 4000000 in
set_option maxRecDepth 100000 in
theorem b_X11_hush {E : rhE} {Γ : rhG} : ∀ (M : rhM) (v0 : Nat), rhF E 5 2 yX11_hush cX11_hush (some .int) Γ (rhe1I Γ) (f_X11_hush Γ M v0) 0 [(0, rhR v0)] [] Γ M := by
  intro M v0
  rw [f_X11_hush]
  refine rhF.aload_n (pc := 0) dX11_hush_0 0 rfl ?_
  refine rhF.ck (fun h1 => ?_)
  refine rhF.get (pc := 1) (rhR _) dX11_hush_1 fl_X11_49 h1 rfl ?_
  refine rhF.ck (fun h2 => ?_)
  refine rhF.get (pc := 4) (rhI _) dX11_hush_4 fl_X11_184 h2 rfl ?_
  refine rhF.istore_n (pc := 7) (L' := [(1, rhI _), (0, rhR _)]) dX11_hush_7 (by decide) rfl ?_
  refine rhF.aload_n (pc := 8) dX11_hush_8 1 rfl ?_
  refine rhF.get (pc := 9) (rhR _) dX11_hush_9 fl_X11_49 h1 rfl ?_
  refine rhF.callV (pc := 12) (ci := 3) (embc := rhe1U _) [] dX11_hush_12 ml_X11_95 mv_X3_clear ⟨_, rfl, rfl⟩ h2 (c_X3_clear _ _ _ _) (by decide) (by decide) rfl (Nat.le_of_ble_eq_true rfl) (fun r4 _ => ?_)
  refine rhF.iload_n (pc := 15) dX11_hush_15 0 rfl ?_
  exact rhF.zret (pc := 16) dX11_hush_16 rfl rfl rfl
theorem c_X11_hush (E : rhE) (Γ : rhG) (M : rhM) (v0 : Nat) : ∀ a, f_X11_hush Γ M v0 = some a → rhC E 5 yX11_hush cX11_hush 2 (some .int) [rhR v0] Γ M ((rhe1I Γ) a) := rhF.met (by decide +kernel) (Nat.le_of_ble_eq_true rfl) (b_X11_hush M v0)
def f_X11_image (Γ : rhG) (M : rhM) (v0 : Nat) (v1 : Int32) : Option (Int32 × rhG × rhM) :=
  if v1 < 0 then
    (some (((-1), Γ, M)))
  else
    if v1 < 3 then
      (rhck (Γ.2.2.1 v0 = 12) <|
      rhck (Γ.2.2.1 (M.2.2 v0 5) = 8) <|
      rhck (Γ.2.2.1 (M.2.2 v0 12) = 16) <|
      rhck (0 ≤ (v1).toInt ∧ (v1).toInt < (Γ.2.2.2 (M.2.2 v0 12) : Nat)) <|
      let M7 := rhsl M (M.2.2 v0 12) (v1 : Int32).toNatClampNeg (M.2.1 (M.2.2 v0 5) 0)
      rhck (Γ.2.2.1 (M.2.2 v0 13) = 18) <|
      rhck (0 ≤ (v1).toInt ∧ (v1).toInt < (Γ.2.2.2 (M.2.2 v0 13) : Nat)) <|
      rhck (Γ.2.2.1 (M.2.2 (M.2.2 v0 13) v1.toNatClampNeg) = 4) <|
      (f_X3_copy Γ M7 (M.2.2 (M.2.2 v0 13) v1.toNatClampNeg) (M.2.2 v0 7)).bind fun r11 =>
      rhck (r11.1.2.2.1 v0 = 12) <|
      rhck (r11.1.2.2.1 (r11.2.2.2 v0 7) = 4) <|
      some ((r11.2.1 (r11.2.2.2 v0 7) 1, r11.1, r11.2)))
    else
      some (((-1), Γ, M))
set_option maxHeartbeats 4000000 in
set_option maxRecDepth 100000 in
theorem b_X11_image {E : rhE} {Γ0 : rhG} : ∀ (Γ : rhG) (M : rhM) (v0 : Nat) (v1 : Int32), rhF E 7 2 yX11_image cX11_image (some .int) Γ0 rhe2I (f_X11_image Γ M v0 v1) 0 [(0, rhR v0), (1, rhI v1)] [] Γ M := by
  intro Γ M v0 v1
  rw [f_X11_image]
  refine rhF.iload_n (pc := 0) dX11_image_0 1 rfl ?_
  refine rhF.if_lt (pc := 1) 9 dX11_image_1 (by decide) (fun h1 => ?_) (fun h1 => ?_)
  · refine rhF.iconst (pc := 9) (v := (-1)) dX11_image_9 (by decide) ?_
    exact rhF.zret (pc := 10) dX11_image_10 rfl rfl rfl
  · refine rhF.iload_n (pc := 4) dX11_image_4 1 rfl ?_
    refine rhF.iconst (pc := 5) (v := 3) dX11_image_5 (by decide) ?_
    refine rhF.icmp_lt (pc := 6) 11 dX11_image_6 (by decide) (fun h2 => ?_) (fun h2 => ?_)
    · refine rhF.aload_n (pc := 11) dX11_image_11 0 rfl ?_
      refine rhF.ck (fun h3 => ?_)
      refine rhF.get (pc := 12) (rhR _) dX11_image_12 fl_X11_55 h3 rfl ?_
      refine rhF.iload_n (pc := 15) dX11_image_15 1 rfl ?_
      refine rhF.aload_n (pc := 16) dX11_image_16 0 rfl ?_
      refine rhF.get (pc := 17) (rhR _) dX11_image_17 fl_X11_33 h3 rfl ?_
      refine rhF.ck (fun h4 => ?_)
      refine rhF.get (pc := 20) (rhJ _) dX11_image_20 fl_X11_207 h4 rfl ?_
      refine rhF.ck (fun h5 => ?_)
      refine rhF.ck (fun h6 => ?_)
      refine rhF.last (pc := 23) dX11_image_23 h5 h6 ?_
      refine rhF.aload_n (pc := 24) dX11_image_24 0 rfl ?_
      refine rhF.get (pc := 25) (rhR _) dX11_image_25 fl_X11_59 h3 rfl ?_
      refine rhF.iload_n (pc := 28) dX11_image_28 1 rfl ?_
      refine rhF.ck (fun h8 => ?_)
      refine rhF.ck (fun h9 => ?_)
      refine rhF.aldP (pc := 29) dX11_image_29 h8 h9 ?_
      refine rhF.aload_n (pc := 30) dX11_image_30 0 rfl ?_
      refine rhF.get (pc := 31) (rhR _) dX11_image_31 fl_X11_45 h3 rfl ?_
      refine rhF.ck (fun h10 => ?_)
      refine rhF.callV (pc := 34) (ci := 3) (embc := rhe2U) [rhR _] dX11_image_34 ml_X11_299 mv_X3_copy ⟨_, rfl, rfl⟩ h10 (c_X3_copy _ _ _ _ _) (by decide) (by decide) rfl (Nat.le_of_ble_eq_true rfl) (fun r11 _ => ?_)
      refine rhF.aload_n (pc := 37) dX11_image_37 0 rfl ?_
      refine rhF.ck (fun h12 => ?_)
      refine rhF.get (pc := 38) (rhR _) dX11_image_38 fl_X11_45 h12 rfl ?_
      refine rhF.ck (fun h13 => ?_)
      refine rhF.get (pc := 41) (rhI _) dX11_image_41 fl_X11_184 h13 rfl ?_
      exact rhF.zret (pc := 44) dX11_image_44 rfl rfl rfl
    · refine rhF.iconst (pc := 9) (v := (-1)) dX11_image_9 (by decide) ?_
      exact rhF.zret (pc := 10) dX11_image_10 rfl rfl rfl
theorem c_X11_image (E : rhE) (Γ : rhG) (M : rhM) (v0 : Nat) (v1 : Int32) : ∀ a, f_X11_image Γ M v0 v1 = some a → rhC E 7 yX11_image cX11_image 2 (some .int) [rhR v0, rhI v1] Γ M (rhe2I a) := rhF.met (by decide +kernel) (Nat.le_of_ble_eq_true rfl) (b_X11_image (Γ0 := Γ) Γ M v0 v1)
def f_X11_init_136 (k163 : rhG → rhM → Nat → Option (rhG × rhM)) : Nat → rhG → rhM → Nat → Int32 → Option (rhG × rhM)
  | 0, _, _, _, _ => none
  | n + 1, Γ, M, v0, v1 =>
    if v1 < 3 then
      (rhck (Γ.2.2.1 v0 = 12) <|
      let M74 := rhmn M (nu (Γ.1 + 1))
      let G73 := rhgn Γ 4 0 3
      rhck (G73.2.2.1 ((nu (Γ.1 + 1))) = 4) <|
      (f_X3_init G73 M74 ((nu (Γ.1 + 1))) (300 : Int32)).bind fun r76 =>
      rhck (r76.1.2.2.1 (M.2.2 v0 13) = 18) <|
      rhck (0 ≤ (v1).toInt ∧ (v1).toInt < (r76.1.2.2.2 (M.2.2 v0 13) : Nat)) <|
      rhck (r76.1.2.2.1 ((nu (Γ.1 + 1))) = 4) <|
      let M80 := rhsr r76.2 (M.2.2 v0 13) (v1 : Int32).toNatClampNeg ((nu (Γ.1 + 1)))
      let x81 : Int32 := v1 + 1
      f_X11_init_136 k163 n r76.1 M80 v0 x81)
    else
      k163 Γ M v0
def f_X11_init_163 (Γ : rhG) (M : rhM) (v0 : Nat) : Option (rhG × rhM) :=
  rhck (Γ.2.2.1 v0 = 12) <|
  (f_X11_beginTown Γ M v0).bind fun r83 =>
  some (Γ, r83)
def f_X11_init (Γ : rhG) (M : rhM) (v0 : Nat) : Option (rhG × rhM) :=
  rhck (Γ.2.2.1 v0 = 12) <|
  rhck (0 ≤ (1600 : Int32).toInt ∧ (1600 : Int32).toInt ≤ 67108864) <|
  let M4 := rhmn M (nu (Γ.1 + 1))
  let G3 := rhgn Γ 14 (1600 : Int32).toNatClampNeg (1600 : Int32).toNatClampNeg
  rhck (G3.2.2.1 v0 = 12) <|
  let M6 := rhsr M4 v0 0 ((nu (Γ.1 + 1)))
  let M8 := rhmn M6 (nu (G3.1 + 1))
  let G7 := rhgn G3 5 0 12
  rhck (G7.2.2.1 ((nu (G3.1 + 1))) = 5) <|
  (f_X4_init G7 M8 ((nu (G3.1 + 1)))).bind fun r10 =>
  rhck (r10.1.2.2.1 v0 = 12) <|
  let M12 := rhsr r10.2 v0 2 ((nu (G3.1 + 1)))
  let M14 := rhmn M12 (nu (r10.1.1 + 1))
  let G13 := rhgn r10.1 10 0 12
  rhck (G13.2.2.1 ((nu (r10.1.1 + 1))) = 10) <|
  (f_X9_init G13 M14 ((nu (r10.1.1 + 1)))).bind fun r16 =>
  rhck (r16.1.2.2.1 v0 = 12) <|
  let M18 := rhsr r16.2 v0 3 ((nu (r10.1.1 + 1)))
  let M20 := rhmn M18 (nu (r16.1.1 + 1))
  let G19 := rhgn r16.1 10 0 12
  rhck (G19.2.2.1 ((nu (r16.1.1 + 1))) = 10) <|
  (f_X9_init G19 M20 ((nu (r16.1.1 + 1)))).bind fun r22 =>
  rhck (r22.1.2.2.1 v0 = 12) <|
  let M24 := rhsr r22.2 v0 4 ((nu (r16.1.1 + 1)))
  let M26 := rhmn M24 (nu (r22.1.1 + 1))
  let G25 := rhgn r22.1 8 0 12
  rhck (G25.2.2.1 ((nu (r22.1.1 + 1))) = 8) <|
  (f_X7_init G25 M26 ((nu (r22.1.1 + 1)))).bind fun r28 =>
  rhck (r28.1.2.2.1 v0 = 12) <|
  let M30 := rhsr r28.2 v0 5 ((nu (r22.1.1 + 1)))
  let M32 := rhmn M30 (nu (r28.1.1 + 1))
  let G31 := rhgn r28.1 8 0 12
  rhck (G31.2.2.1 ((nu (r28.1.1 + 1))) = 8) <|
  (f_X7_init G31 M32 ((nu (r28.1.1 + 1)))).bind fun r34 =>
  rhck (r34.1.2.2.1 v0 = 12) <|
  let M36 := rhsr r34.2 v0 6 ((nu (r28.1.1 + 1)))
  let M38 := rhmn M36 (nu (r34.1.1 + 1))
  let G37 := rhgn r34.1 4 0 3
  rhck (G37.2.2.1 ((nu (r34.1.1 + 1))) = 4) <|
  (f_X3_init G37 M38 ((nu (r34.1.1 + 1))) (300 : Int32)).bind fun r40 =>
  rhck (r40.1.2.2.1 v0 = 12) <|
  let M42 := rhsr r40.2 v0 7 ((nu (r34.1.1 + 1)))
  let M44 := rhmn M42 (nu (r40.1.1 + 1))
  let G43 := rhgn r40.1 4 0 3
  rhck (G43.2.2.1 ((nu (r40.1.1 + 1))) = 4) <|
  (f_X3_init G43 M44 ((nu (r40.1.1 + 1))) (12 : Int32)).bind fun r46 =>
  rhck (r46.1.2.2.1 v0 = 12) <|
  let M48 := rhsr r46.2 v0 8 ((nu (r40.1.1 + 1)))
  let M50 := rhmn M48 (nu (r46.1.1 + 1))
  let G49 := rhgn r46.1 4 0 3
  rhck (G49.2.2.1 ((nu (r46.1.1 + 1))) = 4) <|
  (f_X3_init G49 M50 ((nu (r46.1.1 + 1))) (64 : Int32)).bind fun r52 =>
  rhck (r52.1.2.2.1 v0 = 12) <|
  let M54 := rhsr r52.2 v0 9 ((nu (r46.1.1 + 1)))
  rhck (0 ≤ (3 : Int32).toInt ∧ (3 : Int32).toInt ≤ 67108864) <|
  let M57 := rhmn M54 (nu (r52.1.1 + 1))
  let G56 := rhgn r52.1 16 (3 : Int32).toNatClampNeg (3 : Int32).toNatClampNeg
  rhck (G56.2.2.1 v0 = 12) <|
  let M59 := rhsr M57 v0 12 ((nu (r52.1.1 + 1)))
  rhck (0 ≤ (3 : Int32).toInt ∧ (3 : Int32).toInt ≤ 67108864) <|
  let M62 := rhmn M59 (nu (G56.1 + 1))
  let G61 := rhgn G56 18 (3 : Int32).toNatClampNeg (3 : Int32).toNatClampNeg
  rhck (G61.2.2.1 v0 = 12) <|
  let M64 := rhsr M62 v0 13 ((nu (G56.1 + 1)))
  let M66 := rhmn M64 (nu (G61.1 + 1))
  let G65 := rhgn G61 7 0 15
  rhck (G65.2.2.1 ((nu (G61.1 + 1))) = 7) <|
  (f_X6_init G65 M66 ((nu (G61.1 + 1)))).bind fun r68 =>
  rhck (r68.1.2.2.1 v0 = 12) <|
  let M70 := rhsr r68.2 v0 14 ((nu (G61.1 + 1)))
  f_X11_init_136 (f_X11_init_163) rhFU r68.1 M70 v0 0
set_option maxHeartbeats 4000000 in
set_option maxRecDepth 100000 in
theorem b_X11_init_136 {E : rhE} {Γ0 : rhG} {k163 : rhG → rhM → Nat → Option (rhG × rhM)} (hk163 : ∀ (Γ : rhG) (M : rhM) (v0 : Nat), rhF E 7 2 yX11_init cX11_init none Γ0 rhe2U (k163 Γ M v0) 163 [(0, rhR v0)] [] Γ M) : ∀ (n : Nat) (Γ : rhG) (M : rhM) (v0 : Nat) (v1 : Int32), rhF E 7 2 yX11_init cX11_init none Γ0 rhe2U (f_X11_init_136 k163 n Γ M v0 v1) 136 [(0, rhR v0), (1, rhI v1)] [] Γ M := by
  intro n
  induction n with
  | zero => intro Γ M v0 v1; rw [f_X11_init_136]; exact rhF.nope
  | succ n ih =>
    intro Γ M v0 v1
    rw [f_X11_init_136]
    refine rhF.iload_n (pc := 136) dX11_init_136 1 rfl ?_
    refine rhF.iconst (pc := 137) (v := 3) dX11_init_137 (by decide) ?_
    refine rhF.icmp_ge (pc := 138) 163 dX11_init_138 (by decide) (fun h71 => ?_) (fun h71 => ?_)
    · refine rhF.aload_n (pc := 141) dX11_init_141 0 rfl ?_
      refine rhF.ck (fun h72 => ?_)
      refine rhF.get (pc := 142) (rhR _) dX11_init_142 fl_X11_59 h72 rfl ?_
      refine rhF.iload_n (pc := 145) dX11_init_145 1 rfl ?_
      refine rhF.new (pc := 146) (ci := 3) dX11_init_146 nw_X11_40 ?_
      refine rhF.dupr (pc := 149) dX11_init_149 ?_
      refine rhF.sipush (pc := 150) (v := 300) dX11_init_150 (by decide) ?_
      refine rhF.ck (fun h75 => ?_)
      refine rhF.callI (pc := 153) (embc := rhe2U) [rhI _] dX11_init_153 ml_X11_42 mi_X3_init (fun z => absurd (h75.symm.trans z) (by decide)) (c_X3_init _ _ _ _ _) (by decide) (by decide) rfl (Nat.le_of_ble_eq_true rfl) (fun r76 _ => ?_)
      refine rhF.ck (fun h77 => ?_)
      refine rhF.ck (fun h78 => ?_)
      refine rhF.ck (fun h79 => ?_)
      refine rhF.astP (pc := 156) dX11_init_156 h77 h79 h78 ?_
      refine rhF.iinc (pc := 157) (L' := [(1, rhI _), (0, rhR _)]) dX11_init_157 1 rfl rfl (by decide) rfl ?_
      refine rhF.goto (pc := 160) 136 dX11_init_160 (by decide) ?_
      refine rhF.sub [1, 0] rfl ?_
      exact ih _ _ _ _
    · refine rhF.sub [0] rfl ?_
      exact hk163 _ _ _
set_option maxHeartbeats 4000000 in
set_option maxRecDepth 100000 in
theorem b_X11_init_163 {E : rhE} {Γ0 : rhG} : ∀ (Γ : rhG) (M : rhM) (v0 : Nat), rhF E 7 2 yX11_init cX11_init none Γ0 rhe2U (f_X11_init_163 Γ M v0) 163 [(0, rhR v0)] [] Γ M := by
  intro Γ M v0
  rw [f_X11_init_163]
  refine rhF.aload_n (pc := 163) dX11_init_163 0 rfl ?_
  refine rhF.ck (fun h82 => ?_)
  refine rhF.callV (pc := 164) (ci := 11) (embc := rhe1U _) [] dX11_init_164 ml_X11_70 mv_X11_beginTown ⟨_, rfl, rfl⟩ h82 (c_X11_beginTown _ _ _ _) (by decide) (by decide) rfl (Nat.le_of_ble_eq_true rfl) (fun r83 _ => ?_)
  exact rhF.vret (pc := 167) dX11_init_167 rfl rfl
set_option maxHeartbeats 4000000 in
set_option maxRecDepth 100000 in
theorem b_X11_init {E : rhE} {Γ0 : rhG} : ∀ (Γ : rhG) (M : rhM) (v0 : Nat), rhF E 7 2 yX11_init cX11_init none Γ0 rhe2U (f_X11_init Γ M v0) 0 [(0, rhR v0)] [] Γ M := by
  intro Γ M v0
  rw [f_X11_init]
  refine rhF.aload_n (pc := 0) dX11_init_0 0 rfl ?_
  refine rhF.ck (fun h1 => ?_)
  refine rhF.objInit (pc := 1) dX11_init_1 oi_X11_1 (fun z => absurd (h1.symm.trans z) (by decide)) (by decide) (Nat.le_of_ble_eq_true rfl) ?_
  refine rhF.aload_n (pc := 4) dX11_init_4 0 rfl ?_
  refine rhF.sipush (pc := 5) (v := 1600) dX11_init_5 (by decide) ?_
  refine rhF.ck (fun h2 => ?_)
  refine rhF.newB (pc := 8) dX11_init_8 ac_byte h2 ?_
  refine rhF.ck (fun h5 => ?_)
  refine rhF.putr (pc := 10) dX11_init_10 fl_X11_9 h5 (fun q hq => by cases hq; exact Or.inr ⟨rfl, rfl, rfl⟩) (Or.inr ⟨_, rfl⟩) (fun _ => rfl) ?_
  refine rhF.aload_n (pc := 13) dX11_init_13 0 rfl ?_
  refine rhF.new (pc := 14) (ci := 4) dX11_init_14 nw_X11_13 ?_
  refine rhF.dupr (pc := 17) dX11_init_17 ?_
  refine rhF.ck (fun h9 => ?_)
  refine rhF.callIN (pc := 18) (embc := rhe2U) "RailHouses" [] dX11_init_18 (by decide +kernel) ne_X11_15 mi_X4_init (fun z => absurd (h9.symm.trans z) (by decide)) (c_X4_init _ _ _ _) (by decide) (by decide) rfl (Nat.le_of_ble_eq_true rfl) (fun r10 _ => ?_)
  refine rhF.ck (fun h11 => ?_)
  refine rhF.putr (pc := 21) dX11_init_21 fl_X11_16 h11 (fun q hq => by cases hq; exact Or.inr ⟨rfl, rfl, rfl⟩) (Or.inl ⟨_, rfl⟩) (fun _ => rfl) ?_
  refine rhF.aload_n (pc := 24) dX11_init_24 0 rfl ?_
  refine rhF.new (pc := 25) (ci := 9) dX11_init_25 nw_X11_20 ?_
  refine rhF.dupr (pc := 28) dX11_init_28 ?_
  refine rhF.ck (fun h15 => ?_)
  refine rhF.callI (pc := 29) (embc := rhe2U) [] dX11_init_29 ml_X11_22 mi_X9_init (fun z => absurd (h15.symm.trans z) (by decide)) (c_X9_init _ _ _ _) (by decide) (by decide) rfl (Nat.le_of_ble_eq_true rfl) (fun r16 _ => ?_)
  refine rhF.ck (fun h17 => ?_)
  refine rhF.putr (pc := 32) dX11_init_32 fl_X11_23 h17 (fun q hq => by cases hq; exact Or.inl rfl) (Or.inl ⟨_, rfl⟩) (fun _ => rfl) ?_
  refine rhF.aload_n (pc := 35) dX11_init_35 0 rfl ?_
  refine rhF.new (pc := 36) (ci := 9) dX11_init_36 nw_X11_20 ?_
  refine rhF.dupr (pc := 39) dX11_init_39 ?_
  refine rhF.ck (fun h21 => ?_)
  refine rhF.callI (pc := 40) (embc := rhe2U) [] dX11_init_40 ml_X11_22 mi_X9_init (fun z => absurd (h21.symm.trans z) (by decide)) (c_X9_init _ _ _ _) (by decide) (by decide) rfl (Nat.le_of_ble_eq_true rfl) (fun r22 _ => ?_)
  refine rhF.ck (fun h23 => ?_)
  refine rhF.putr (pc := 43) dX11_init_43 fl_X11_27 h23 (fun q hq => by cases hq; exact Or.inl rfl) (Or.inl ⟨_, rfl⟩) (fun _ => rfl) ?_
  refine rhF.aload_n (pc := 46) dX11_init_46 0 rfl ?_
  refine rhF.new (pc := 47) (ci := 7) dX11_init_47 nw_X11_30 ?_
  refine rhF.dupr (pc := 50) dX11_init_50 ?_
  refine rhF.ck (fun h27 => ?_)
  refine rhF.callIN (pc := 51) (embc := rhe2U) "RailHouses" [] dX11_init_51 (by decide +kernel) ne_X11_32 mi_X7_init (fun z => absurd (h27.symm.trans z) (by decide)) (c_X7_init _ _ _ _) (by decide) (by decide) rfl (Nat.le_of_ble_eq_true rfl) (fun r28 _ => ?_)
  refine rhF.ck (fun h29 => ?_)
  refine rhF.putr (pc := 54) dX11_init_54 fl_X11_33 h29 (fun q hq => by cases hq; exact Or.inr ⟨rfl, rfl, rfl⟩) (Or.inl ⟨_, rfl⟩) (fun _ => rfl) ?_
  refine rhF.aload_n (pc := 57) dX11_init_57 0 rfl ?_
  refine rhF.new (pc := 58) (ci := 7) dX11_init_58 nw_X11_30 ?_
  refine rhF.dupr (pc := 61) dX11_init_61 ?_
  refine rhF.ck (fun h33 => ?_)
  refine rhF.callIN (pc := 62) (embc := rhe2U) "RailHouses" [] dX11_init_62 (by decide +kernel) ne_X11_32 mi_X7_init (fun z => absurd (h33.symm.trans z) (by decide)) (c_X7_init _ _ _ _) (by decide) (by decide) rfl (Nat.le_of_ble_eq_true rfl) (fun r34 _ => ?_)
  refine rhF.ck (fun h35 => ?_)
  refine rhF.putr (pc := 65) dX11_init_65 fl_X11_37 h35 (fun q hq => by cases hq; exact Or.inr ⟨rfl, rfl, rfl⟩) (Or.inl ⟨_, rfl⟩) (fun _ => rfl) ?_
  refine rhF.aload_n (pc := 68) dX11_init_68 0 rfl ?_
  refine rhF.new (pc := 69) (ci := 3) dX11_init_69 nw_X11_40 ?_
  refine rhF.dupr (pc := 72) dX11_init_72 ?_
  refine rhF.sipush (pc := 73) (v := 300) dX11_init_73 (by decide) ?_
  refine rhF.ck (fun h39 => ?_)
  refine rhF.callI (pc := 76) (embc := rhe2U) [rhI _] dX11_init_76 ml_X11_42 mi_X3_init (fun z => absurd (h39.symm.trans z) (by decide)) (c_X3_init _ _ _ _ _) (by decide) (by decide) rfl (Nat.le_of_ble_eq_true rfl) (fun r40 _ => ?_)
  refine rhF.ck (fun h41 => ?_)
  refine rhF.putr (pc := 79) dX11_init_79 fl_X11_45 h41 (fun q hq => by cases hq; exact Or.inr ⟨rfl, rfl, rfl⟩) (Or.inl ⟨_, rfl⟩) (fun _ => rfl) ?_
  refine rhF.aload_n (pc := 82) dX11_init_82 0 rfl ?_
  refine rhF.new (pc := 83) (ci := 3) dX11_init_83 nw_X11_40 ?_
  refine rhF.dupr (pc := 86) dX11_init_86 ?_
  refine rhF.bipush (pc := 87) (v := 12) dX11_init_87 (by decide) ?_
  refine rhF.ck (fun h45 => ?_)
  refine rhF.callI (pc := 89) (embc := rhe2U) [rhI _] dX11_init_89 ml_X11_42 mi_X3_init (fun z => absurd (h45.symm.trans z) (by decide)) (c_X3_init _ _ _ _ _) (by decide) (by decide) rfl (Nat.le_of_ble_eq_true rfl) (fun r46 _ => ?_)
  refine rhF.ck (fun h47 => ?_)
  refine rhF.putr (pc := 92) dX11_init_92 fl_X11_49 h47 (fun q hq => by cases hq; exact Or.inr ⟨rfl, rfl, rfl⟩) (Or.inl ⟨_, rfl⟩) (fun _ => rfl) ?_
  refine rhF.aload_n (pc := 95) dX11_init_95 0 rfl ?_
  refine rhF.new (pc := 96) (ci := 3) dX11_init_96 nw_X11_40 ?_
  refine rhF.dupr (pc := 99) dX11_init_99 ?_
  refine rhF.bipush (pc := 100) (v := 64) dX11_init_100 (by decide) ?_
  refine rhF.ck (fun h51 => ?_)
  refine rhF.callI (pc := 102) (embc := rhe2U) [rhI _] dX11_init_102 ml_X11_42 mi_X3_init (fun z => absurd (h51.symm.trans z) (by decide)) (c_X3_init _ _ _ _ _) (by decide) (by decide) rfl (Nat.le_of_ble_eq_true rfl) (fun r52 _ => ?_)
  refine rhF.ck (fun h53 => ?_)
  refine rhF.putr (pc := 105) dX11_init_105 fl_X11_52 h53 (fun q hq => by cases hq; exact Or.inr ⟨rfl, rfl, rfl⟩) (Or.inl ⟨_, rfl⟩) (fun _ => rfl) ?_
  refine rhF.aload_n (pc := 108) dX11_init_108 0 rfl ?_
  refine rhF.iconst (pc := 109) (v := 3) dX11_init_109 (by decide) ?_
  refine rhF.ck (fun h55 => ?_)
  refine rhF.newJ (pc := 110) dX11_init_110 ac_long h55 ?_
  refine rhF.ck (fun h58 => ?_)
  refine rhF.putr (pc := 112) dX11_init_112 fl_X11_55 h58 (fun q hq => by cases hq; exact Or.inr ⟨rfl, rfl, rfl⟩) (Or.inr ⟨_, rfl⟩) (fun _ => rfl) ?_
  refine rhF.aload_n (pc := 115) dX11_init_115 0 rfl ?_
  refine rhF.iconst (pc := 116) (v := 3) dX11_init_116 (by decide) ?_
  refine rhF.ck (fun h60 => ?_)
  refine rhF.newP (pc := 117) dX11_init_117 cl_X11_40 h60 ?_
  refine rhF.ck (fun h63 => ?_)
  refine rhF.putr (pc := 120) dX11_init_120 fl_X11_59 h63 (fun q hq => by cases hq; exact Or.inr ⟨rfl, rfl, rfl⟩) (Or.inr ⟨_, rfl⟩) (fun _ => rfl) ?_
  refine rhF.aload_n (pc := 123) dX11_init_123 0 rfl ?_
  refine rhF.new (pc := 124) (ci := 6) dX11_init_124 nw_X11_63 ?_
  refine rhF.dupr (pc := 127) dX11_init_127 ?_
  refine rhF.ck (fun h67 => ?_)
  refine rhF.callI (pc := 128) (embc := rhe2U) [] dX11_init_128 ml_X11_65 mi_X6_init (fun z => absurd (h67.symm.trans z) (by decide)) (c_X6_init _ _ _ _) (by decide) (by decide) rfl (Nat.le_of_ble_eq_true rfl) (fun r68 _ => ?_)
  refine rhF.ck (fun h69 => ?_)
  refine rhF.putr (pc := 131) dX11_init_131 fl_X11_66 h69 (fun q hq => by cases hq; exact Or.inr ⟨rfl, rfl, rfl⟩) (Or.inl ⟨_, rfl⟩) (fun _ => rfl) ?_
  refine rhF.iconst (pc := 134) (v := 0) dX11_init_134 (by decide) ?_
  refine rhF.istore_n (pc := 135) (L' := [(1, rhI _), (0, rhR _)]) dX11_init_135 (by decide) rfl ?_
  refine rhF.sub [1, 0] rfl ?_
  exact (b_X11_init_136 (b_X11_init_163) rhFU) _ _ _ _
theorem c_X11_init (E : rhE) (Γ : rhG) (M : rhM) (v0 : Nat) : ∀ a, f_X11_init Γ M v0 = some a → rhC E 7 yX11_init cX11_init 2 none [rhR v0] Γ M (rhe2U a) := rhF.met (by decide +kernel) (Nat.le_of_ble_eq_true rfl) (b_X11_init (Γ0 := Γ) Γ M v0)
def f_X11_isLawfulFrom (Γ : rhG) (M : rhM) (v0 : Nat) (v1 : Nat) (v2 : Int32) (v3 : Int32) (v4 : Int32) : Option (Int32 × rhM) :=
  rhck (Γ.2.2.1 v0 = 12) <|
  (f_X11_canBeFrom Γ M v0 v1 v2 v3 v4).bind fun r2 =>
  if r2 = 0 then
    (some ((0, M)))
  else
    rhck (Γ.2.2.1 v1 = 8) <|
    (f_X7_last Γ M v1 v2 v3).bind fun r5 =>
    rhck (Γ.2.2.1 (M.2.2 v1 4) = 15) <|
    rhck (0 ≤ (v4).toInt ∧ (v4).toInt < (Γ.2.2.2 (M.2.2 v1 4) : Nat)) <|
    rhck (Γ.2.2.1 (M.2.2 v0 3) = 10) <|
    (f_X9_allows Γ M (M.2.2 v0 3) v2 r5 v4 (M.1 (M.2.2 v1 4) v4.toNatClampNeg)).bind fun r9 =>
    if r9.1 = 0 then
      (some ((0, r9.2)))
    else
      some ((1, r9.2))
set_option maxHeartbeats 4000000 in
set_option maxRecDepth 100000 in
theorem b_X11_isLawfulFrom {E : rhE} {Γ : rhG} : ∀ (M : rhM) (v0 : Nat) (v1 : Nat) (v2 : Int32) (v3 : Int32) (v4 : Int32), rhF E 7 5 yX11_isLawfulFrom cX11_isLawfulFrom (some .boolean) Γ (rhe1I Γ) (f_X11_isLawfulFrom Γ M v0 v1 v2 v3 v4) 0 [(0, rhR v0), (1, rhR v1), (2, rhI v2), (3, rhI v3), (4, rhI v4)] [] Γ M := by
  intro M v0 v1 v2 v3 v4
  rw [f_X11_isLawfulFrom]
  refine rhF.aload_n (pc := 0) dX11_isLawfulFrom_0 0 rfl ?_
  refine rhF.aload_n (pc := 1) dX11_isLawfulFrom_1 1 rfl ?_
  refine rhF.iload_n (pc := 2) dX11_isLawfulFrom_2 2 rfl ?_
  refine rhF.iload_n (pc := 3) dX11_isLawfulFrom_3 3 rfl ?_
  refine rhF.iload (pc := 4) dX11_isLawfulFrom_4 4 rfl ?_
  refine rhF.ck (fun h1 => ?_)
  refine rhF.callV (pc := 6) (ci := 11) (embc := rhe0I _ _) [rhR _, rhI _, rhI _, rhI _] dX11_isLawfulFrom_6 ml_X11_148 mv_X11_canBeFrom ⟨_, rfl, rfl⟩ h1 (c_X11_canBeFrom _ _ _ _ _ _ _ _) (by decide) (by decide) rfl (Nat.le_of_ble_eq_true rfl) (fun r2 _ => ?_)
  refine rhF.if_eq (pc := 9) 42 dX11_isLawfulFrom_9 (by decide) (fun h3 => ?_) (fun h3 => ?_)
  · refine rhF.iconst (pc := 42) (v := 0) dX11_isLawfulFrom_42 (by decide) ?_
    exact rhF.zret (pc := 43) dX11_isLawfulFrom_43 rfl rfl rfl
  · refine rhF.aload_n (pc := 12) dX11_isLawfulFrom_12 0 rfl ?_
    refine rhF.get (pc := 13) (rhR _) dX11_isLawfulFrom_13 fl_X11_23 h1 rfl ?_
    refine rhF.iload_n (pc := 16) dX11_isLawfulFrom_16 2 rfl ?_
    refine rhF.aload_n (pc := 17) dX11_isLawfulFrom_17 1 rfl ?_
    refine rhF.iload_n (pc := 18) dX11_isLawfulFrom_18 2 rfl ?_
    refine rhF.iload_n (pc := 19) dX11_isLawfulFrom_19 3 rfl ?_
    refine rhF.ck (fun h4 => ?_)
    refine rhF.callV (pc := 20) (ci := 7) (embc := rhe0I _ _) [rhI _, rhI _] dX11_isLawfulFrom_20 ml_X11_152 mv_X7_last ⟨_, rfl, rfl⟩ h4 (c_X7_last _ _ _ _ _ _) (by decide) (by decide) rfl (Nat.le_of_ble_eq_true rfl) (fun r5 _ => ?_)
    refine rhF.iload (pc := 23) dX11_isLawfulFrom_23 4 rfl ?_
    refine rhF.aload_n (pc := 25) dX11_isLawfulFrom_25 1 rfl ?_
    refine rhF.get (pc := 26) (rhR _) dX11_isLawfulFrom_26 fl_X11_134 h4 rfl ?_
    refine rhF.iload (pc := 29) dX11_isLawfulFrom_29 4 rfl ?_
    refine rhF.ck (fun h6 => ?_)
    refine rhF.ck (fun h7 => ?_)
    refine rhF.iald (pc := 31) dX11_isLawfulFrom_31 h6 h7 ?_
    refine rhF.ck (fun h8 => ?_)
    refine rhF.callV (pc := 32) (ci := 9) (embc := rhe1I _) [rhI _, rhI _, rhI _, rhI _] dX11_isLawfulFrom_32 ml_X11_155 mv_X9_allows ⟨_, rfl, rfl⟩ h8 (c_X9_allows _ _ _ _ _ _ _ _) (by decide) (by decide) rfl (Nat.le_of_ble_eq_true rfl) (fun r9 _ => ?_)
    refine rhF.if_eq (pc := 35) 42 dX11_isLawfulFrom_35 (by decide) (fun h10 => ?_) (fun h10 => ?_)
    · refine rhF.iconst (pc := 42) (v := 0) dX11_isLawfulFrom_42 (by decide) ?_
      exact rhF.zret (pc := 43) dX11_isLawfulFrom_43 rfl rfl rfl
    · refine rhF.iconst (pc := 38) (v := 1) dX11_isLawfulFrom_38 (by decide) ?_
      refine rhF.goto (pc := 39) 43 dX11_isLawfulFrom_39 (by decide) ?_
      exact rhF.zret (pc := 43) dX11_isLawfulFrom_43 rfl rfl rfl
theorem c_X11_isLawfulFrom (E : rhE) (Γ : rhG) (M : rhM) (v0 : Nat) (v1 : Nat) (v2 : Int32) (v3 : Int32) (v4 : Int32) : ∀ a, f_X11_isLawfulFrom Γ M v0 v1 v2 v3 v4 = some a → rhC E 7 yX11_isLawfulFrom cX11_isLawfulFrom 5 (some .boolean) [rhR v0, rhR v1, rhI v2, rhI v3, rhI v4] Γ M ((rhe1I Γ) a) := rhF.met (by decide +kernel) (Nat.le_of_ble_eq_true rfl) (b_X11_isLawfulFrom M v0 v1 v2 v3 v4)
