def f_X6_init_96 : Nat → rhG → rhM → Nat → Int32 → Option (rhG × rhM)
  | 0, _, _, _, _ => none
  | n + 1, Γ, M, v0, v1 =>
    if 3 < v1 then
      (some (Γ, M))
    else
      rhck (Γ.2.2.1 v0 = 7) <|
      let M61 := rhmn M (Γ.1 + 1)
      let G60 := rhgn Γ 8 0 9
      rhck (G60.2.2.1 ((Γ.1 + 1)) = 8) <|
      (f_X7_init G60 M61 ((Γ.1 + 1))).bind fun r63 =>
      rhck (r63.1.2.2.1 (M.2.2 v0 7) = 19) <|
      rhck (0 ≤ (v1).toInt ∧ (v1).toInt < (r63.1.2.2.2 (M.2.2 v0 7) : Nat)) <|
      rhck (r63.1.2.2.1 ((Γ.1 + 1)) = 8) <|
      let M67 := rhsr r63.2 (M.2.2 v0 7) (v1 : Int32).toNatClampNeg ((Γ.1 + 1))
      let x68 : Int32 := v1 + 1
      f_X6_init_96 n r63.1 M67 v0 x68
def f_X6_init (Γ : rhG) (M : rhM) (v0 : Nat) : Option (rhG × rhM) :=
  rhck (Γ.2.2.1 v0 = 7) <|
  rhck (0 ≤ (20 : Int32).toInt ∧ (20 : Int32).toInt ≤ 67108864) <|
  let M4 := rhmn M (Γ.1 + 1)
  let G3 := rhgn Γ 15 (20 : Int32).toNatClampNeg (20 : Int32).toNatClampNeg
  rhck (G3.2.2.1 v0 = 7) <|
  let M6 := rhsr M4 v0 1 ((Γ.1 + 1))
  rhck (0 ≤ (20 : Int32).toInt ∧ (20 : Int32).toInt ≤ 67108864) <|
  let M9 := rhmn M6 (G3.1 + 1)
  let G8 := rhgn G3 15 (20 : Int32).toNatClampNeg (20 : Int32).toNatClampNeg
  rhck (G8.2.2.1 v0 = 7) <|
  let M11 := rhsr M9 v0 2 ((G3.1 + 1))
  rhck (0 ≤ (20 : Int32).toInt ∧ (20 : Int32).toInt ≤ 67108864) <|
  let M14 := rhmn M11 (G8.1 + 1)
  let G13 := rhgn G8 15 (20 : Int32).toNatClampNeg (20 : Int32).toNatClampNeg
  rhck (G13.2.2.1 v0 = 7) <|
  let M16 := rhsr M14 v0 3 ((G8.1 + 1))
  rhck (0 ≤ (20 : Int32).toInt ∧ (20 : Int32).toInt ≤ 67108864) <|
  let M19 := rhmn M16 (G13.1 + 1)
  let G18 := rhgn G13 17 (20 : Int32).toNatClampNeg (20 : Int32).toNatClampNeg
  rhck (G18.2.2.1 v0 = 7) <|
  let M21 := rhsr M19 v0 4 ((G13.1 + 1))
  rhck (0 ≤ (20 : Int32).toInt ∧ (20 : Int32).toInt ≤ 67108864) <|
  let M24 := rhmn M21 (G18.1 + 1)
  let G23 := rhgn G18 15 (20 : Int32).toNatClampNeg (20 : Int32).toNatClampNeg
  rhck (G23.2.2.1 v0 = 7) <|
  let M26 := rhsr M24 v0 5 ((G18.1 + 1))
  rhck (0 ≤ (20 : Int32).toInt ∧ (20 : Int32).toInt ≤ 67108864) <|
  let M29 := rhmn M26 (G23.1 + 1)
  let G28 := rhgn G23 15 (20 : Int32).toNatClampNeg (20 : Int32).toNatClampNeg
  rhck (G28.2.2.1 v0 = 7) <|
  let M31 := rhsr M29 v0 6 ((G23.1 + 1))
  rhck (0 ≤ (4 : Int32).toInt ∧ (4 : Int32).toInt ≤ 67108864) <|
  let M34 := rhmn M31 (G28.1 + 1)
  let G33 := rhgn G28 19 (4 : Int32).toNatClampNeg (4 : Int32).toNatClampNeg
  rhck (G33.2.2.1 v0 = 7) <|
  let M36 := rhsr M34 v0 7 ((G28.1 + 1))
  let M38 := rhmn M36 (G33.1 + 1)
  let G37 := rhgn G33 3 0 2
  rhck (G37.2.2.1 ((G33.1 + 1)) = 3) <|
  (f_X2_init G37 M38 ((G33.1 + 1)) (0 : Int32)).bind fun r40 =>
  rhck (r40.1.2.2.1 v0 = 7) <|
  let M42 := rhsr r40.2 v0 8 ((G33.1 + 1))
  rhck (0 ≤ (4 : Int32).toInt ∧ (4 : Int32).toInt ≤ 67108864) <|
  let M45 := rhmn M42 (r40.1.1 + 1)
  let G44 := rhgn r40.1 15 (4 : Int32).toNatClampNeg (4 : Int32).toNatClampNeg
  rhck (G44.2.2.1 v0 = 7) <|
  let M47 := rhsr M45 v0 12 ((r40.1.1 + 1))
  rhck (0 ≤ (4 : Int32).toInt ∧ (4 : Int32).toInt ≤ 67108864) <|
  let M50 := rhmn M47 (G44.1 + 1)
  let G49 := rhgn G44 15 (4 : Int32).toNatClampNeg (4 : Int32).toNatClampNeg
  rhck (G49.2.2.1 v0 = 7) <|
  let M52 := rhsr M50 v0 13 ((G44.1 + 1))
  rhck (0 ≤ (20 : Int32).toInt ∧ (20 : Int32).toInt ≤ 67108864) <|
  let M55 := rhmn M52 (G49.1 + 1)
  let G54 := rhgn G49 15 (20 : Int32).toNatClampNeg (20 : Int32).toNatClampNeg
  rhck (G54.2.2.1 v0 = 7) <|
  let M57 := rhsr M55 v0 14 ((G49.1 + 1))
  f_X6_init_96 rhFU G54 M57 v0 0
set_option maxHeartbeats 4000000 in
set_option maxRecDepth 100000 in
theorem b_X6_init_96 {E : rhE} {Γ0 : rhG} : ∀ (n : Nat) (Γ : rhG) (M : rhM) (v0 : Nat) (v1 : Int32), rhF E 6 2 yX6_init cX6_init none Γ0 rhe2U (f_X6_init_96 n Γ M v0 v1) 96 [(0, rhR v0), (1, rhI v1)] [] Γ M := by
  intro n
  induction n with
  | zero => intro Γ M v0 v1; rw [f_X6_init_96]; exact rhF.nope
  | succ n ih =>
    intro Γ M v0 v1
    rw [f_X6_init_96]
    refine rhF.iload_n (pc := 96) dX6_init_96 1 rfl ?_
    refine rhF.iconst (pc := 97) (v := 3) dX6_init_97 (by decide) ?_
    refine rhF.icmp_gt (pc := 98) 120 dX6_init_98 (by decide) (fun h58 => ?_) (fun h58 => ?_)
    · exact rhF.vret (pc := 120) dX6_init_120 rfl rfl
    · refine rhF.aload_n (pc := 101) dX6_init_101 0 rfl ?_
      refine rhF.ck (fun h59 => ?_)
      refine rhF.get (pc := 102) (rhR _) dX6_init_102 fl_X6_33 h59 rfl ?_
      refine rhF.iload_n (pc := 105) dX6_init_105 1 rfl ?_
      refine rhF.new (pc := 106) (ci := 7) dX6_init_106 nw_X6_31 ?_
      refine rhF.dupr (pc := 109) dX6_init_109 ?_
      refine rhF.ck (fun h62 => ?_)
      refine rhF.callIN (pc := 110) (embc := rhe2U) "RailHouses" [] dX6_init_110 (by decide +kernel) ne_X6_55 mi_X7_init (fun z => absurd (h62.symm.trans z) (by decide)) (c_X7_init _ _ _ _) (by decide) (by decide) rfl (Nat.le_of_ble_eq_true rfl) (fun r63 _ => ?_)
      refine rhF.ck (fun h64 => ?_)
      refine rhF.ck (fun h65 => ?_)
      refine rhF.ck (fun h66 => ?_)
      refine rhF.astS (pc := 113) dX6_init_113 h64 h66 h65 ?_
      refine rhF.iinc (pc := 114) (L' := [(1, rhI _), (0, rhR _)]) dX6_init_114 1 rfl rfl (by decide) rfl ?_
      refine rhF.goto (pc := 117) 96 dX6_init_117 (by decide) ?_
      refine rhF.sub [1, 0] rfl ?_
      exact ih _ _ _ _
set_option maxHeartbeats 4000000 in
set_option maxRecDepth 100000 in
theorem b_X6_init {E : rhE} {Γ0 : rhG} : ∀ (Γ : rhG) (M : rhM) (v0 : Nat), rhF E 6 2 yX6_init cX6_init none Γ0 rhe2U (f_X6_init Γ M v0) 0 [(0, rhR v0)] [] Γ M := by
  intro Γ M v0
  rw [f_X6_init]
  refine rhF.aload_n (pc := 0) dX6_init_0 0 rfl ?_
  refine rhF.ck (fun h1 => ?_)
  refine rhF.objInit (pc := 1) dX6_init_1 oi_X6_3 (fun z => absurd (h1.symm.trans z) (by decide)) (by decide) (Nat.le_of_ble_eq_true rfl) ?_
  refine rhF.aload_n (pc := 4) dX6_init_4 0 rfl ?_
  refine rhF.bipush (pc := 5) (v := 20) dX6_init_5 (by decide) ?_
  refine rhF.ck (fun h2 => ?_)
  refine rhF.newI (pc := 7) dX6_init_7 ac_int h2 ?_
  refine rhF.ck (fun h5 => ?_)
  refine rhF.putr (pc := 9) dX6_init_9 fl_X6_11 h5 (fun q hq => by cases hq; exact Or.inr ⟨rfl, rfl, rfl⟩) (Or.inr ⟨_, rfl⟩) (fun _ => rfl) ?_
  refine rhF.aload_n (pc := 12) dX6_init_12 0 rfl ?_
  refine rhF.bipush (pc := 13) (v := 20) dX6_init_13 (by decide) ?_
  refine rhF.ck (fun h7 => ?_)
  refine rhF.newI (pc := 15) dX6_init_15 ac_int h7 ?_
  refine rhF.ck (fun h10 => ?_)
  refine rhF.putr (pc := 17) dX6_init_17 fl_X6_15 h10 (fun q hq => by cases hq; exact Or.inr ⟨rfl, rfl, rfl⟩) (Or.inr ⟨_, rfl⟩) (fun _ => rfl) ?_
  refine rhF.aload_n (pc := 20) dX6_init_20 0 rfl ?_
  refine rhF.bipush (pc := 21) (v := 20) dX6_init_21 (by decide) ?_
  refine rhF.ck (fun h12 => ?_)
  refine rhF.newI (pc := 23) dX6_init_23 ac_int h12 ?_
  refine rhF.ck (fun h15 => ?_)
  refine rhF.putr (pc := 25) dX6_init_25 fl_X6_18 h15 (fun q hq => by cases hq; exact Or.inr ⟨rfl, rfl, rfl⟩) (Or.inr ⟨_, rfl⟩) (fun _ => rfl) ?_
  refine rhF.aload_n (pc := 28) dX6_init_28 0 rfl ?_
  refine rhF.bipush (pc := 29) (v := 20) dX6_init_29 (by decide) ?_
  refine rhF.ck (fun h17 => ?_)
  refine rhF.newZ (pc := 31) dX6_init_31 ac_boolean h17 ?_
  refine rhF.ck (fun h20 => ?_)
  refine rhF.putr (pc := 33) dX6_init_33 fl_X6_21 h20 (fun q hq => by cases hq; exact Or.inr ⟨rfl, rfl, rfl⟩) (Or.inr ⟨_, rfl⟩) (fun _ => rfl) ?_
  refine rhF.aload_n (pc := 36) dX6_init_36 0 rfl ?_
  refine rhF.bipush (pc := 37) (v := 20) dX6_init_37 (by decide) ?_
  refine rhF.ck (fun h22 => ?_)
  refine rhF.newI (pc := 39) dX6_init_39 ac_int h22 ?_
  refine rhF.ck (fun h25 => ?_)
  refine rhF.putr (pc := 41) dX6_init_41 fl_X6_25 h25 (fun q hq => by cases hq; exact Or.inr ⟨rfl, rfl, rfl⟩) (Or.inr ⟨_, rfl⟩) (fun _ => rfl) ?_
  refine rhF.aload_n (pc := 44) dX6_init_44 0 rfl ?_
  refine rhF.bipush (pc := 45) (v := 20) dX6_init_45 (by decide) ?_
  refine rhF.ck (fun h27 => ?_)
  refine rhF.newI (pc := 47) dX6_init_47 ac_int h27 ?_
  refine rhF.ck (fun h30 => ?_)
  refine rhF.putr (pc := 49) dX6_init_49 fl_X6_28 h30 (fun q hq => by cases hq; exact Or.inr ⟨rfl, rfl, rfl⟩) (Or.inr ⟨_, rfl⟩) (fun _ => rfl) ?_
  refine rhF.aload_n (pc := 52) dX6_init_52 0 rfl ?_
  refine rhF.iconst (pc := 53) (v := 4) dX6_init_53 (by decide) ?_
  refine rhF.ck (fun h32 => ?_)
  refine rhF.newS (pc := 54) dX6_init_54 cl_X6_31 h32 ?_
  refine rhF.ck (fun h35 => ?_)
  refine rhF.putr (pc := 57) dX6_init_57 fl_X6_33 h35 (fun q hq => by cases hq; exact Or.inr ⟨rfl, rfl, rfl⟩) (Or.inr ⟨_, rfl⟩) (fun _ => rfl) ?_
  refine rhF.aload_n (pc := 60) dX6_init_60 0 rfl ?_
  refine rhF.new (pc := 61) (ci := 2) dX6_init_61 nw_X6_37 ?_
  refine rhF.dupr (pc := 64) dX6_init_64 ?_
  refine rhF.iconst (pc := 65) (v := 0) dX6_init_65 (by decide) ?_
  refine rhF.ck (fun h39 => ?_)
  refine rhF.callI (pc := 66) (embc := rhe2U) [rhI _] dX6_init_66 ml_X6_39 mi_X2_init (fun z => absurd (h39.symm.trans z) (by decide)) (c_X2_init _ _ _ _ _) (by decide) (by decide) rfl (Nat.le_of_ble_eq_true rfl) (fun r40 _ => ?_)
  refine rhF.ck (fun h41 => ?_)
  refine rhF.putr (pc := 69) dX6_init_69 fl_X6_42 h41 (fun q hq => by cases hq; exact Or.inr ⟨rfl, rfl, rfl⟩) (Or.inl ⟨_, rfl⟩) (fun _ => rfl) ?_
  refine rhF.aload_n (pc := 72) dX6_init_72 0 rfl ?_
  refine rhF.iconst (pc := 73) (v := 4) dX6_init_73 (by decide) ?_
  refine rhF.ck (fun h43 => ?_)
  refine rhF.newI (pc := 74) dX6_init_74 ac_int h43 ?_
  refine rhF.ck (fun h46 => ?_)
  refine rhF.putr (pc := 76) dX6_init_76 fl_X6_46 h46 (fun q hq => by cases hq; exact Or.inr ⟨rfl, rfl, rfl⟩) (Or.inr ⟨_, rfl⟩) (fun _ => rfl) ?_
  refine rhF.aload_n (pc := 79) dX6_init_79 0 rfl ?_
  refine rhF.iconst (pc := 80) (v := 4) dX6_init_80 (by decide) ?_
  refine rhF.ck (fun h48 => ?_)
  refine rhF.newI (pc := 81) dX6_init_81 ac_int h48 ?_
  refine rhF.ck (fun h51 => ?_)
  refine rhF.putr (pc := 83) dX6_init_83 fl_X6_49 h51 (fun q hq => by cases hq; exact Or.inr ⟨rfl, rfl, rfl⟩) (Or.inr ⟨_, rfl⟩) (fun _ => rfl) ?_
  refine rhF.aload_n (pc := 86) dX6_init_86 0 rfl ?_
  refine rhF.bipush (pc := 87) (v := 20) dX6_init_87 (by decide) ?_
  refine rhF.ck (fun h53 => ?_)
  refine rhF.newI (pc := 89) dX6_init_89 ac_int h53 ?_
  refine rhF.ck (fun h56 => ?_)
  refine rhF.putr (pc := 91) dX6_init_91 fl_X6_52 h56 (fun q hq => by cases hq; exact Or.inr ⟨rfl, rfl, rfl⟩) (Or.inr ⟨_, rfl⟩) (fun _ => rfl) ?_
  refine rhF.iconst (pc := 94) (v := 0) dX6_init_94 (by decide) ?_
  refine rhF.istore_n (pc := 95) (L' := [(1, rhI _), (0, rhR _)]) dX6_init_95 (by decide) rfl ?_
  refine rhF.sub [1, 0] rfl ?_
  exact (b_X6_init_96 rhFU) _ _ _ _
theorem c_X6_init (E : rhE) (Γ : rhG) (M : rhM) (v0 : Nat) : ∀ a, f_X6_init Γ M v0 = some a → rhC E 6 yX6_init cX6_init 2 none [rhR v0] Γ M (rhe2U a) := rhF.met (by decide +kernel) (Nat.le_of_ble_eq_true rfl) (b_X6_init (Γ0 := Γ) Γ M v0)
def f_X6_railsOf_5 (Γ : rhG) (M : rhM) : Nat → Nat → Int32 → Int32 → Int32 → Int32 → Option (Int32)
  | 0, _, _, _, _, _ => none
  | n + 1, v0, v1, v2, v3, v4 =>
    if v4 < 5 then
      (rhck (Γ.2.2.1 v0 = 7) <|
      rhck (Γ.2.2.1 (M.2.2 v0 14) = 15) <|
      rhck (0 ≤ ((v2 * 5) + v4).toInt ∧ ((v2 * 5) + v4).toInt < (Γ.2.2.2 (M.2.2 v0 14) : Nat)) <|
      let x5 := v3 ||| (((rhus (M.1 (M.2.2 v0 14) ((v2 * 5) + v4).toNatClampNeg) v1) &&& 1) <<< (v4 &&& 31))
      let x6 : Int32 := v4 + 1
      f_X6_railsOf_5 Γ M n v0 v1 v2 x5 x6)
    else
      some v3
def f_X6_railsOf (Γ : rhG) (M : rhM) (v0 : Nat) (v1 : Int32) (v2 : Int32) : Option (Int32) :=
  f_X6_railsOf_5 Γ M rhFU v0 v1 v2 0 0
set_option maxHeartbeats 4000000 in
set_option maxRecDepth 100000 in
theorem b_X6_railsOf_5 {E : rhE} {Γ : rhG} {M : rhM} : ∀ (n : Nat) (v0 : Nat) (v1 : Int32) (v2 : Int32) (v3 : Int32) (v4 : Int32), rhF E 1 5 yX6_railsOf cX6_railsOf (some .int) Γ (rhe0I Γ M) (f_X6_railsOf_5 Γ M n v0 v1 v2 v3 v4) 5 [(0, rhR v0), (1, rhI v1), (2, rhI v2), (3, rhI v3), (4, rhI v4)] [] Γ M := by
  intro n
  induction n with
  | zero => intro v0 v1 v2 v3 v4; rw [f_X6_railsOf_5]; exact rhF.nope
  | succ n ih =>
    intro v0 v1 v2 v3 v4
    rw [f_X6_railsOf_5]
    refine rhF.iload (pc := 5) dX6_railsOf_5 4 rfl ?_
    refine rhF.iconst (pc := 7) (v := 5) dX6_railsOf_7 (by decide) ?_
    refine rhF.icmp_ge (pc := 8) 38 dX6_railsOf_8 (by decide) (fun h1 => ?_) (fun h1 => ?_)
    · refine rhF.iload_n (pc := 11) dX6_railsOf_11 3 rfl ?_
      refine rhF.aload_n (pc := 12) dX6_railsOf_12 0 rfl ?_
      refine rhF.ck (fun h2 => ?_)
      refine rhF.get (pc := 13) (rhR _) dX6_railsOf_13 fl_X6_52 h2 rfl ?_
      refine rhF.iload_n (pc := 16) dX6_railsOf_16 2 rfl ?_
      refine rhF.iconst (pc := 17) (v := 5) dX6_railsOf_17 (by decide) ?_
      refine rhF.imul (pc := 18) dX6_railsOf_18 ?_
      refine rhF.iload (pc := 19) dX6_railsOf_19 4 rfl ?_
      refine rhF.iadd (pc := 21) dX6_railsOf_21 ?_
      refine rhF.ck (fun h3 => ?_)
      refine rhF.ck (fun h4 => ?_)
      refine rhF.iald (pc := 22) dX6_railsOf_22 h3 h4 ?_
      refine rhF.iload_n (pc := 23) dX6_railsOf_23 1 rfl ?_
      refine rhF.iushr (pc := 24) dX6_railsOf_24 ?_
      refine rhF.iconst (pc := 25) (v := 1) dX6_railsOf_25 (by decide) ?_
      refine rhF.iand (pc := 26) dX6_railsOf_26 ?_
      refine rhF.iload (pc := 27) dX6_railsOf_27 4 rfl ?_
      refine rhF.ishl (pc := 29) dX6_railsOf_29 ?_
      refine rhF.ior (pc := 30) dX6_railsOf_30 ?_
      refine rhF.istore_n (pc := 31) (L' := [(3, rhI _), (0, rhR _), (1, rhI _), (2, rhI _), (4, rhI _)]) dX6_railsOf_31 (by decide) rfl ?_
      refine rhF.iinc (pc := 32) (L' := [(4, rhI _), (3, rhI _), (0, rhR _), (1, rhI _), (2, rhI _)]) dX6_railsOf_32 4 rfl rfl (by decide) rfl ?_
      refine rhF.goto (pc := 35) 5 dX6_railsOf_35 (by decide) ?_
      refine rhF.sub [2, 3, 4, 1, 0] rfl ?_
      exact ih _ _ _ _ _
    · refine rhF.iload_n (pc := 38) dX6_railsOf_38 3 rfl ?_
      exact rhF.zret (pc := 39) dX6_railsOf_39 rfl rfl rfl
set_option maxHeartbeats 4000000 in
set_option maxRecDepth 100000 in
theorem b_X6_railsOf {E : rhE} {Γ : rhG} {M : rhM} : ∀ (v0 : Nat) (v1 : Int32) (v2 : Int32), rhF E 1 5 yX6_railsOf cX6_railsOf (some .int) Γ (rhe0I Γ M) (f_X6_railsOf Γ M v0 v1 v2) 0 [(0, rhR v0), (1, rhI v1), (2, rhI v2)] [] Γ M := by
  intro v0 v1 v2
  rw [f_X6_railsOf]
  refine rhF.iconst (pc := 0) (v := 0) dX6_railsOf_0 (by decide) ?_
  refine rhF.istore_n (pc := 1) (L' := [(3, rhI _), (0, rhR _), (1, rhI _), (2, rhI _)]) dX6_railsOf_1 (by decide) rfl ?_
  refine rhF.iconst (pc := 2) (v := 0) dX6_railsOf_2 (by decide) ?_
  refine rhF.istore (pc := 3) (L' := [(4, rhI _), (3, rhI _), (0, rhR _), (1, rhI _), (2, rhI _)]) dX6_railsOf_3 (by decide) rfl ?_
  refine rhF.sub [2, 3, 4, 1, 0] rfl ?_
  exact (b_X6_railsOf_5 rhFU) _ _ _ _ _
theorem c_X6_railsOf (E : rhE) (Γ : rhG) (M : rhM) (v0 : Nat) (v1 : Int32) (v2 : Int32) : ∀ a, f_X6_railsOf Γ M v0 v1 v2 = some a → rhC E 1 yX6_railsOf cX6_railsOf 5 (some .int) [rhR v0, rhI v1, rhI v2] Γ M ((rhe0I Γ M) a) := rhF.met (by decide +kernel) (Nat.le_of_ble_eq_true rfl) (b_X6_railsOf v0 v1 v2)
def f_X6_remove (Γ : rhG) (M : rhM) (v0 : Nat) (v1 : Int32) (v2 : Int32) : Option (Int32 × rhM) :=
  if v1 < 0 then
    (some ((0, M)))
  else
    rhck (Γ.2.2.1 v0 = 7) <|
    if v1 < (M.1 v0 0) then
      (rhck (Γ.2.2.1 (M.2.2 v0 6) = 15) <|
      rhck (0 ≤ (v1).toInt ∧ (v1).toInt < (Γ.2.2.2 (M.2.2 v0 6) : Nat)) <|
      if (M.1 (M.2.2 v0 6) v1.toNatClampNeg) = ((-1)) then
        (let M7 := rhsi M (M.2.2 v0 6) (v1 : Int32).toNatClampNeg v2
        some ((1, M7)))
      else
        some ((0, M)))
    else
      some ((0, M))
set_option maxHeartbeats 4000000 in
set_option maxRecDepth 100000 in
theorem b_X6_remove {E : rhE} {Γ : rhG} : ∀ (M : rhM) (v0 : Nat) (v1 : Int32) (v2 : Int32), rhF E 1 3 yX6_remove cX6_remove (some .boolean) Γ (rhe1I Γ) (f_X6_remove Γ M v0 v1 v2) 0 [(0, rhR v0), (1, rhI v1), (2, rhI v2)] [] Γ M := by
  intro M v0 v1 v2
  rw [f_X6_remove]
  refine rhF.iload_n (pc := 0) dX6_remove_0 1 rfl ?_
  refine rhF.if_lt (pc := 1) 22 dX6_remove_1 (by decide) (fun h1 => ?_) (fun h1 => ?_)
  · refine rhF.iconst (pc := 22) (v := 0) dX6_remove_22 (by decide) ?_
    exact rhF.zret (pc := 23) dX6_remove_23 rfl rfl rfl
  · refine rhF.iload_n (pc := 4) dX6_remove_4 1 rfl ?_
    refine rhF.aload_n (pc := 5) dX6_remove_5 0 rfl ?_
    refine rhF.ck (fun h2 => ?_)
    refine rhF.get (pc := 6) (rhI _) dX6_remove_6 fl_X6_56 h2 rfl ?_
    refine rhF.icmp_ge (pc := 9) 22 dX6_remove_9 (by decide) (fun h3 => ?_) (fun h3 => ?_)
    · refine rhF.aload_n (pc := 12) dX6_remove_12 0 rfl ?_
      refine rhF.get (pc := 13) (rhR _) dX6_remove_13 fl_X6_28 h2 rfl ?_
      refine rhF.iload_n (pc := 16) dX6_remove_16 1 rfl ?_
      refine rhF.ck (fun h4 => ?_)
      refine rhF.ck (fun h5 => ?_)
      refine rhF.iald (pc := 17) dX6_remove_17 h4 h5 ?_
      refine rhF.iconst (pc := 18) (v := (-1)) dX6_remove_18 (by decide) ?_
      refine rhF.icmp_eq (pc := 19) 24 dX6_remove_19 (by decide) (fun h6 => ?_) (fun h6 => ?_)
      · refine rhF.aload_n (pc := 24) dX6_remove_24 0 rfl ?_
        refine rhF.get (pc := 25) (rhR _) dX6_remove_25 fl_X6_28 h2 rfl ?_
        refine rhF.iload_n (pc := 28) dX6_remove_28 1 rfl ?_
        refine rhF.iload_n (pc := 29) dX6_remove_29 2 rfl ?_
        refine rhF.iast (pc := 30) dX6_remove_30 h4 h5 ?_
        refine rhF.iconst (pc := 31) (v := 1) dX6_remove_31 (by decide) ?_
        exact rhF.zret (pc := 32) dX6_remove_32 rfl rfl rfl
      · refine rhF.iconst (pc := 22) (v := 0) dX6_remove_22 (by decide) ?_
        exact rhF.zret (pc := 23) dX6_remove_23 rfl rfl rfl
    · refine rhF.iconst (pc := 22) (v := 0) dX6_remove_22 (by decide) ?_
      exact rhF.zret (pc := 23) dX6_remove_23 rfl rfl rfl
theorem c_X6_remove (E : rhE) (Γ : rhG) (M : rhM) (v0 : Nat) (v1 : Int32) (v2 : Int32) : ∀ a, f_X6_remove Γ M v0 v1 v2 = some a → rhC E 1 yX6_remove cX6_remove 3 (some .boolean) [rhR v0, rhI v1, rhI v2] Γ M ((rhe1I Γ) a) := rhF.met (by decide +kernel) (Nat.le_of_ble_eq_true rfl) (b_X6_remove M v0 v1 v2)
def f_X7_count (Γ : rhG) (M : rhM) (v0 : Nat) (v1 : Int32) : Option (Int32) :=
  rhck (Γ.2.2.1 v0 = 8) <|
  rhck (Γ.2.2.1 (M.2.2 v0 3) = 15) <|
  rhck (0 ≤ (v1).toInt ∧ (v1).toInt < (Γ.2.2.2 (M.2.2 v0 3) : Nat)) <|
  rhck (Γ.2.2.1 (M.2.2 v0 2) = 15) <|
  rhck (0 ≤ (v1).toInt ∧ (v1).toInt < (Γ.2.2.2 (M.2.2 v0 2) : Nat)) <|
  some ((M.1 (M.2.2 v0 3) v1.toNatClampNeg) - (M.1 (M.2.2 v0 2) v1.toNatClampNeg))
set_option maxHeartbeats 4000000 in
set_option maxRecDepth 100000 in
theorem b_X7_count {E : rhE} {Γ : rhG} {M : rhM} : ∀ (v0 : Nat) (v1 : Int32), rhF E 1 2 yX7_count cX7_count (some .int) Γ (rhe0I Γ M) (f_X7_count Γ M v0 v1) 0 [(0, rhR v0), (1, rhI v1)] [] Γ M := by
  intro v0 v1
  rw [f_X7_count]
  refine rhF.aload_n (pc := 0) dX7_count_0 0 rfl ?_
  refine rhF.ck (fun h1 => ?_)
  refine rhF.get (pc := 1) (rhR _) dX7_count_1 fl_X7_15 h1 rfl ?_
  refine rhF.iload_n (pc := 4) dX7_count_4 1 rfl ?_
  refine rhF.ck (fun h2 => ?_)
  refine rhF.ck (fun h3 => ?_)
  refine rhF.iald (pc := 5) dX7_count_5 h2 h3 ?_
  refine rhF.aload_n (pc := 6) dX7_count_6 0 rfl ?_
  refine rhF.get (pc := 7) (rhR _) dX7_count_7 fl_X7_9 h1 rfl ?_
  refine rhF.iload_n (pc := 10) dX7_count_10 1 rfl ?_
  refine rhF.ck (fun h4 => ?_)
  refine rhF.ck (fun h5 => ?_)
  refine rhF.iald (pc := 11) dX7_count_11 h4 h5 ?_
  refine rhF.isub (pc := 12) dX7_count_12 ?_
  exact rhF.zret (pc := 13) dX7_count_13 rfl rfl rfl
theorem c_X7_count (E : rhE) (Γ : rhG) (M : rhM) (v0 : Nat) (v1 : Int32) : ∀ a, f_X7_count Γ M v0 v1 = some a → rhC E 1 yX7_count cX7_count 2 (some .int) [rhR v0, rhI v1] Γ M ((rhe0I Γ M) a) := rhF.met (by decide +kernel) (Nat.le_of_ble_eq_true rfl) (b_X7_count v0 v1)
def f_X7_houseAt (Γ : rhG) (M : rhM) (v0 : Nat) (v1 : Int32) (v2 : Int32) : Option (Int32) :=
  rhck (Γ.2.2.1 v0 = 8) <|
  rhck (Γ.2.2.1 (M.2.2 v0 2) = 15) <|
  rhck (0 ≤ (v1).toInt ∧ (v1).toInt < (Γ.2.2.2 (M.2.2 v0 2) : Nat)) <|
  (f_X7_digitOf Γ M (M.2.1 v0 0) ((M.1 (M.2.2 v0 2) v1.toNatClampNeg) + v2)).bind fun r4 =>
  some r4
set_option maxHeartbeats 4000000 in
set_option maxRecDepth 100000 in
theorem b_X7_houseAt {E : rhE} {Γ : rhG} {M : rhM} : ∀ (v0 : Nat) (v1 : Int32) (v2 : Int32), rhF E 5 3 yX7_houseAt cX7_houseAt (some .int) Γ (rhe0I Γ M) (f_X7_houseAt Γ M v0 v1 v2) 0 [(0, rhR v0), (1, rhI v1), (2, rhI v2)] [] Γ M := by
  intro v0 v1 v2
  rw [f_X7_houseAt]
  refine rhF.aload_n (pc := 0) dX7_houseAt_0 0 rfl ?_
  refine rhF.ck (fun h1 => ?_)
  refine rhF.get (pc := 1) (rhJ _) dX7_houseAt_1 fl_X7_31 h1 rfl ?_
  refine rhF.aload_n (pc := 4) dX7_houseAt_4 0 rfl ?_
  refine rhF.get (pc := 5) (rhR _) dX7_houseAt_5 fl_X7_9 h1 rfl ?_
  refine rhF.iload_n (pc := 8) dX7_houseAt_8 1 rfl ?_
  refine rhF.ck (fun h2 => ?_)
  refine rhF.ck (fun h3 => ?_)
  refine rhF.iald (pc := 9) dX7_houseAt_9 h2 h3 ?_
  refine rhF.iload_n (pc := 10) dX7_houseAt_10 2 rfl ?_
  refine rhF.iadd (pc := 11) dX7_houseAt_11 ?_
  refine rhF.callS (pc := 12) (embc := rhe0I _ _) [rhJ _, rhI _] dX7_houseAt_12 ml_X7_51 ms_X7_digitOf (c_X7_digitOf _ _ _ _ _) (by decide) (by decide) rfl (Nat.le_of_ble_eq_true rfl) (fun r4 _ => ?_)
  exact rhF.zret (pc := 15) dX7_houseAt_15 rfl rfl rfl
theorem c_X7_houseAt (E : rhE) (Γ : rhG) (M : rhM) (v0 : Nat) (v1 : Int32) (v2 : Int32) : ∀ a, f_X7_houseAt Γ M v0 v1 v2 = some a → rhC E 5 yX7_houseAt cX7_houseAt 3 (some .int) [rhR v0, rhI v1, rhI v2] Γ M ((rhe0I Γ M) a) := rhF.met (by decide +kernel) (Nat.le_of_ble_eq_true rfl) (b_X7_houseAt v0 v1 v2)
def f_X7_railOf_2 (Γ : rhG) (M : rhM) : Nat → Nat → Int32 → Int32 → Option (Int32)
  | 0, _, _, _ => none
  | n + 1, v0, v1, v2 =>
    rhck (Γ.2.2.1 v0 = 8) <|
    if v2 < (M.1 v0 1) then
      (rhck (Γ.2.2.1 (M.2.2 v0 4) = 15) <|
      rhck (0 ≤ (v2).toInt ∧ (v2).toInt < (Γ.2.2.2 (M.2.2 v0 4) : Nat)) <|
      if ((rhus (M.1 (M.2.2 v0 4) v2.toNatClampNeg) v1) &&& 1) = 0 then
        (let x6 : Int32 := v2 + 1
        f_X7_railOf_2 Γ M n v0 v1 x6)
      else
        some v2)
    else
      some ((-1))
def f_X7_railOf (Γ : rhG) (M : rhM) (v0 : Nat) (v1 : Int32) : Option (Int32) :=
  f_X7_railOf_2 Γ M rhFU v0 v1 0
set_option maxHeartbeats 4000000 in
set_option maxRecDepth 100000 in
theorem b_X7_railOf_2 {E : rhE} {Γ : rhG} {M : rhM} : ∀ (n : Nat) (v0 : Nat) (v1 : Int32) (v2 : Int32), rhF E 1 3 yX7_railOf cX7_railOf (some .int) Γ (rhe0I Γ M) (f_X7_railOf_2 Γ M n v0 v1 v2) 2 [(0, rhR v0), (1, rhI v1), (2, rhI v2)] [] Γ M := by
  intro n
  induction n with
  | zero => intro v0 v1 v2; rw [f_X7_railOf_2]; exact rhF.nope
  | succ n ih =>
    intro v0 v1 v2
    rw [f_X7_railOf_2]
    refine rhF.iload_n (pc := 2) dX7_railOf_2 2 rfl ?_
    refine rhF.aload_n (pc := 3) dX7_railOf_3 0 rfl ?_
    refine rhF.ck (fun h1 => ?_)
    refine rhF.get (pc := 4) (rhI _) dX7_railOf_4 fl_X7_41 h1 rfl ?_
    refine rhF.icmp_ge (pc := 7) 31 dX7_railOf_7 (by decide) (fun h2 => ?_) (fun h2 => ?_)
    · refine rhF.aload_n (pc := 10) dX7_railOf_10 0 rfl ?_
      refine rhF.get (pc := 11) (rhR _) dX7_railOf_11 fl_X7_18 h1 rfl ?_
      refine rhF.iload_n (pc := 14) dX7_railOf_14 2 rfl ?_
      refine rhF.ck (fun h3 => ?_)
      refine rhF.ck (fun h4 => ?_)
      refine rhF.iald (pc := 15) dX7_railOf_15 h3 h4 ?_
      refine rhF.iload_n (pc := 16) dX7_railOf_16 1 rfl ?_
      refine rhF.iushr (pc := 17) dX7_railOf_17 ?_
      refine rhF.iconst (pc := 18) (v := 1) dX7_railOf_18 (by decide) ?_
      refine rhF.iand (pc := 19) dX7_railOf_19 ?_
      refine rhF.if_eq (pc := 20) 25 dX7_railOf_20 (by decide) (fun h5 => ?_) (fun h5 => ?_)
      · refine rhF.iinc (pc := 25) (L' := [(2, rhI _), (0, rhR _), (1, rhI _)]) dX7_railOf_25 2 rfl rfl (by decide) rfl ?_
        refine rhF.goto (pc := 28) 2 dX7_railOf_28 (by decide) ?_
        refine rhF.sub [1, 2, 0] rfl ?_
        exact ih _ _ _
      · refine rhF.iload_n (pc := 23) dX7_railOf_23 2 rfl ?_
        exact rhF.zret (pc := 24) dX7_railOf_24 rfl rfl rfl
    · refine rhF.iconst (pc := 31) (v := (-1)) dX7_railOf_31 (by decide) ?_
      exact rhF.zret (pc := 32) dX7_railOf_32 rfl rfl rfl
set_option maxHeartbeats 4000000 in
set_option maxRecDepth 100000 in
theorem b_X7_railOf {E : rhE} {Γ : rhG} {M : rhM} : ∀ (v0 : Nat) (v1 : Int32), rhF E 1 3 yX7_railOf cX7_railOf (some .int) Γ (rhe0I Γ M) (f_X7_railOf Γ M v0 v1) 0 [(0, rhR v0), (1, rhI v1)] [] Γ M := by
  intro v0 v1
  rw [f_X7_railOf]
  refine rhF.iconst (pc := 0) (v := 0) dX7_railOf_0 (by decide) ?_
  refine rhF.istore_n (pc := 1) (L' := [(2, rhI _), (0, rhR _), (1, rhI _)]) dX7_railOf_1 (by decide) rfl ?_
  refine rhF.sub [1, 2, 0] rfl ?_
  exact (b_X7_railOf_2 rhFU) _ _ _
theorem c_X7_railOf (E : rhE) (Γ : rhG) (M : rhM) (v0 : Nat) (v1 : Int32) : ∀ a, f_X7_railOf Γ M v0 v1 = some a → rhC E 1 yX7_railOf cX7_railOf 3 (some .int) [rhR v0, rhI v1] Γ M ((rhe0I Γ M) a) := rhF.met (by decide +kernel) (Nat.le_of_ble_eq_true rfl) (b_X7_railOf v0 v1)
def f_X7_aheadOf_18 (Γ : rhG) (M : rhM) : Nat → Nat → Int32 → Int32 → Int32 → Int32 → Option (Int32)
  | 0, _, _, _, _, _ => none
  | n + 1, v0, v1, v2, v3, v4 =>
    rhck (Γ.2.2.1 v0 = 8) <|
    (f_X7_count Γ M v0 v2).bind fun r5 =>
    if v4 < r5 then
      ((f_X7_houseAt Γ M v0 v2 v4).bind fun r7 =>
      if r7 = v1 then
        (some v3)
      else
        let x9 : Int32 := v3 + 1
        let x10 : Int32 := v4 + 1
        f_X7_aheadOf_18 Γ M n v0 v1 v2 x9 x10)
    else
      some v3
def f_X7_aheadOf (Γ : rhG) (M : rhM) (v0 : Nat) (v1 : Int32) : Option (Int32) :=
  rhck (Γ.2.2.1 v0 = 8) <|
  (f_X7_railOf Γ M v0 v1).bind fun r2 =>
  if r2 = ((-1)) then
    (some ((-1)))
  else
    f_X7_aheadOf_18 Γ M rhFU v0 v1 r2 0 0
set_option maxHeartbeats 4000000 in
set_option maxRecDepth 100000 in
theorem b_X7_aheadOf_18 {E : rhE} {Γ : rhG} {M : rhM} : ∀ (n : Nat) (v0 : Nat) (v1 : Int32) (v2 : Int32) (v3 : Int32) (v4 : Int32), rhF E 6 5 yX7_aheadOf cX7_aheadOf (some .int) Γ (rhe0I Γ M) (f_X7_aheadOf_18 Γ M n v0 v1 v2 v3 v4) 18 [(0, rhR v0), (1, rhI v1), (2, rhI v2), (3, rhI v3), (4, rhI v4)] [] Γ M := by
  intro n
  induction n with
  | zero => intro v0 v1 v2 v3 v4; rw [f_X7_aheadOf_18]; exact rhF.nope
  | succ n ih =>
    intro v0 v1 v2 v3 v4
    rw [f_X7_aheadOf_18]
    refine rhF.iload (pc := 18) dX7_aheadOf_18 4 rfl ?_
    refine rhF.aload_n (pc := 20) dX7_aheadOf_20 0 rfl ?_
    refine rhF.iload_n (pc := 21) dX7_aheadOf_21 2 rfl ?_
    refine rhF.ck (fun h4 => ?_)
    refine rhF.callV (pc := 22) (ci := 7) (embc := rhe0I _ _) [rhI _] dX7_aheadOf_22 ml_X7_59 mv_X7_count ⟨_, rfl, rfl⟩ h4 (c_X7_count _ _ _ _ _) (by decide) (by decide) rfl (Nat.le_of_ble_eq_true rfl) (fun r5 _ => ?_)
    refine rhF.icmp_ge (pc := 25) 48 dX7_aheadOf_25 (by decide) (fun h6 => ?_) (fun h6 => ?_)
    · refine rhF.aload_n (pc := 28) dX7_aheadOf_28 0 rfl ?_
      refine rhF.iload_n (pc := 29) dX7_aheadOf_29 2 rfl ?_
      refine rhF.iload (pc := 30) dX7_aheadOf_30 4 rfl ?_
      refine rhF.callV (pc := 32) (ci := 7) (embc := rhe0I _ _) [rhI _, rhI _] dX7_aheadOf_32 ml_X7_62 mv_X7_houseAt ⟨_, rfl, rfl⟩ h4 (c_X7_houseAt _ _ _ _ _ _) (by decide) (by decide) rfl (Nat.le_of_ble_eq_true rfl) (fun r7 _ => ?_)
      refine rhF.iload_n (pc := 35) dX7_aheadOf_35 1 rfl ?_
      refine rhF.icmp_eq (pc := 36) 48 dX7_aheadOf_36 (by decide) (fun h8 => ?_) (fun h8 => ?_)
      · refine rhF.iload_n (pc := 48) dX7_aheadOf_48 3 rfl ?_
        exact rhF.zret (pc := 49) dX7_aheadOf_49 rfl rfl rfl
      · refine rhF.iinc (pc := 39) (L' := [(3, rhI _), (0, rhR _), (1, rhI _), (2, rhI _), (4, rhI _)]) dX7_aheadOf_39 3 rfl rfl (by decide) rfl ?_
        refine rhF.iinc (pc := 42) (L' := [(4, rhI _), (3, rhI _), (0, rhR _), (1, rhI _), (2, rhI _)]) dX7_aheadOf_42 4 rfl rfl (by decide) rfl ?_
        refine rhF.goto (pc := 45) 18 dX7_aheadOf_45 (by decide) ?_
        refine rhF.sub [2, 3, 4, 1, 0] rfl ?_
        exact ih _ _ _ _ _
    · refine rhF.iload_n (pc := 48) dX7_aheadOf_48 3 rfl ?_
      exact rhF.zret (pc := 49) dX7_aheadOf_49 rfl rfl rfl
set_option maxHeartbeats 4000000 in
set_option maxRecDepth 100000 in
theorem b_X7_aheadOf {E : rhE} {Γ : rhG} {M : rhM} : ∀ (v0 : Nat) (v1 : Int32), rhF E 6 5 yX7_aheadOf cX7_aheadOf (some .int) Γ (rhe0I Γ M) (f_X7_aheadOf Γ M v0 v1) 0 [(0, rhR v0), (1, rhI v1)] [] Γ M := by
  intro v0 v1
  rw [f_X7_aheadOf]
  refine rhF.aload_n (pc := 0) dX7_aheadOf_0 0 rfl ?_
  refine rhF.iload_n (pc := 1) dX7_aheadOf_1 1 rfl ?_
  refine rhF.ck (fun h1 => ?_)
  refine rhF.callV (pc := 2) (ci := 7) (embc := rhe0I _ _) [rhI _] dX7_aheadOf_2 ml_X7_55 mv_X7_railOf ⟨_, rfl, rfl⟩ h1 (c_X7_railOf _ _ _ _ _) (by decide) (by decide) rfl (Nat.le_of_ble_eq_true rfl) (fun r2 _ => ?_)
  refine rhF.istore_n (pc := 5) (L' := [(2, rhI _), (0, rhR _), (1, rhI _)]) dX7_aheadOf_5 (by decide) rfl ?_
  refine rhF.iload_n (pc := 6) dX7_aheadOf_6 0 rfl ?_
  refine rhF.iconst (pc := 7) (v := (-1)) dX7_aheadOf_7 (by decide) ?_
  refine rhF.icmp_ne (pc := 8) 13 dX7_aheadOf_8 (by decide) (fun h3 => ?_) (fun h3 => ?_)
  · refine rhF.iconst (pc := 11) (v := (-1)) dX7_aheadOf_11 (by decide) ?_
    exact rhF.zret (pc := 12) dX7_aheadOf_12 rfl rfl rfl
  · refine rhF.iconst (pc := 13) (v := 0) dX7_aheadOf_13 (by decide) ?_
    refine rhF.istore_n (pc := 14) (L' := [(3, rhI _), (2, rhI _), (0, rhR _), (1, rhI _)]) dX7_aheadOf_14 (by decide) rfl ?_
    refine rhF.iconst (pc := 15) (v := 0) dX7_aheadOf_15 (by decide) ?_
    refine rhF.istore (pc := 16) (L' := [(4, rhI _), (3, rhI _), (2, rhI _), (0, rhR _), (1, rhI _)]) dX7_aheadOf_16 (by decide) rfl ?_
    refine rhF.sub [3, 4, 2, 1, 0] rfl ?_
    exact (b_X7_aheadOf_18 rhFU) _ _ _ _ _
theorem c_X7_aheadOf (E : rhE) (Γ : rhG) (M : rhM) (v0 : Nat) (v1 : Int32) : ∀ a, f_X7_aheadOf Γ M v0 v1 = some a → rhC E 6 yX7_aheadOf cX7_aheadOf 5 (some .int) [rhR v0, rhI v1] Γ M ((rhe0I Γ M) a) := rhF.met (by decide +kernel) (Nat.le_of_ble_eq_true rfl) (b_X7_aheadOf v0 v1)
def f_X7_last_12 (Γ : rhG) (M : rhM) : Nat → Nat → Int32 → Int32 → Int32 → Option (Int32)
  | 0, _, _, _, _ => none
  | n + 1, v0, v1, v3, v4 =>
    rhck (Γ.2.2.1 v0 = 8) <|
    rhck (Γ.2.2.1 (M.2.2 v0 3) = 15) <|
    rhck (0 ≤ (v1).toInt ∧ (v1).toInt < (Γ.2.2.2 (M.2.2 v0 3) : Nat)) <|
    if v4 < (M.1 (M.2.2 v0 3) v1.toNatClampNeg) then
      ((f_X7_digitOf Γ M (M.2.1 v0 0) v4).bind fun r9 =>
      let x10 := v3 ||| (1 <<< (r9 &&& 31))
      let x11 : Int32 := v4 + 1
      f_X7_last_12 Γ M n v0 v1 x10 x11)
    else
      some v3
def f_X7_last (Γ : rhG) (M : rhM) (v0 : Nat) (v1 : Int32) (v2 : Int32) : Option (Int32) :=
  rhck (Γ.2.2.1 v0 = 8) <|
  rhck (Γ.2.2.1 (M.2.2 v0 3) = 15) <|
  rhck (0 ≤ (v1).toInt ∧ (v1).toInt < (Γ.2.2.2 (M.2.2 v0 3) : Nat)) <|
  let x4 := (M.1 (M.2.2 v0 3) v1.toNatClampNeg) - v2
  f_X7_last_12 Γ M rhFU v0 v1 0 x4
set_option maxHeartbeats 4000000 in
set_option maxRecDepth 100000 in
theorem b_X7_last_12 {E : rhE} {Γ : rhG} {M : rhM} : ∀ (n : Nat) (v0 : Nat) (v1 : Int32) (v3 : Int32) (v4 : Int32), rhF E 5 5 yX7_last cX7_last (some .int) Γ (rhe0I Γ M) (f_X7_last_12 Γ M n v0 v1 v3 v4) 12 [(0, rhR v0), (1, rhI v1), (3, rhI v3), (4, rhI v4)] [] Γ M := by
  intro n
  induction n with
  | zero => intro v0 v1 v3 v4; rw [f_X7_last_12]; exact rhF.nope
  | succ n ih =>
    intro v0 v1 v3 v4
    rw [f_X7_last_12]
    refine rhF.iload (pc := 12) dX7_last_12 3 rfl ?_
    refine rhF.aload_n (pc := 14) dX7_last_14 0 rfl ?_
    refine rhF.ck (fun h5 => ?_)
    refine rhF.get (pc := 15) (rhR _) dX7_last_15 fl_X7_15 h5 rfl ?_
    refine rhF.iload_n (pc := 18) dX7_last_18 1 rfl ?_
    refine rhF.ck (fun h6 => ?_)
    refine rhF.ck (fun h7 => ?_)
    refine rhF.iald (pc := 19) dX7_last_19 h6 h7 ?_
    refine rhF.icmp_ge (pc := 20) 43 dX7_last_20 (by decide) (fun h8 => ?_) (fun h8 => ?_)
    · refine rhF.iload_n (pc := 23) dX7_last_23 2 rfl ?_
      refine rhF.iconst (pc := 24) (v := 1) dX7_last_24 (by decide) ?_
      refine rhF.aload_n (pc := 25) dX7_last_25 0 rfl ?_
      refine rhF.get (pc := 26) (rhJ _) dX7_last_26 fl_X7_31 h5 rfl ?_
      refine rhF.iload (pc := 29) dX7_last_29 3 rfl ?_
      refine rhF.callS (pc := 31) (embc := rhe0I _ _) [rhJ _, rhI _] dX7_last_31 ml_X7_51 ms_X7_digitOf (c_X7_digitOf _ _ _ _ _) (by decide) (by decide) rfl (Nat.le_of_ble_eq_true rfl) (fun r9 _ => ?_)
      refine rhF.ishl (pc := 34) dX7_last_34 ?_
      refine rhF.ior (pc := 35) dX7_last_35 ?_
      refine rhF.istore_n (pc := 36) (L' := [(3, rhI _), (0, rhR _), (1, rhI _), (4, rhI _)]) dX7_last_36 (by decide) rfl ?_
      refine rhF.iinc (pc := 37) (L' := [(4, rhI _), (3, rhI _), (0, rhR _), (1, rhI _)]) dX7_last_37 3 rfl rfl (by decide) rfl ?_
      refine rhF.goto (pc := 40) 12 dX7_last_40 (by decide) ?_
      refine rhF.sub [2, 3, 1, 0] rfl ?_
      exact ih _ _ _ _
    · refine rhF.iload_n (pc := 43) dX7_last_43 2 rfl ?_
      exact rhF.zret (pc := 44) dX7_last_44 rfl rfl rfl
set_option maxHeartbeats 4000000 in
set_option maxRecDepth 100000 in
theorem b_X7_last {E : rhE} {Γ : rhG} {M : rhM} : ∀ (v0 : Nat) (v1 : Int32) (v2 : Int32), rhF E 5 5 yX7_last cX7_last (some .int) Γ (rhe0I Γ M) (f_X7_last Γ M v0 v1 v2) 0 [(0, rhR v0), (1, rhI v1), (2, rhI v2)] [] Γ M := by
  intro v0 v1 v2
  rw [f_X7_last]
  refine rhF.iconst (pc := 0) (v := 0) dX7_last_0 (by decide) ?_
  refine rhF.istore_n (pc := 1) (L' := [(3, rhI _), (0, rhR _), (1, rhI _), (2, rhI _)]) dX7_last_1 (by decide) rfl ?_
  refine rhF.aload_n (pc := 2) dX7_last_2 1 rfl ?_
  refine rhF.ck (fun h1 => ?_)
  refine rhF.get (pc := 3) (rhR _) dX7_last_3 fl_X7_15 h1 rfl ?_
  refine rhF.iload_n (pc := 6) dX7_last_6 2 rfl ?_
  refine rhF.ck (fun h2 => ?_)
  refine rhF.ck (fun h3 => ?_)
  refine rhF.iald (pc := 7) dX7_last_7 h2 h3 ?_
  refine rhF.iload_n (pc := 8) dX7_last_8 3 rfl ?_
  refine rhF.isub (pc := 9) dX7_last_9 ?_
  refine rhF.istore (pc := 10) (L' := [(4, rhI _), (3, rhI _), (0, rhR _), (1, rhI _), (2, rhI _)]) dX7_last_10 (by decide) rfl ?_
  refine rhF.sub [2, 3, 1, 0] rfl ?_
  exact (b_X7_last_12 rhFU) _ _ _ _
theorem c_X7_last (E : rhE) (Γ : rhG) (M : rhM) (v0 : Nat) (v1 : Int32) (v2 : Int32) : ∀ a, f_X7_last Γ M v0 v1 v2 = some a → rhC E 5 yX7_last cX7_last 5 (some .int) [rhR v0, rhI v1, rhI v2] Γ M ((rhe0I Γ M) a) := rhF.met (by decide +kernel) (Nat.le_of_ble_eq_true rfl) (b_X7_last v0 v1 v2)
def f_X9_asks (Γ : rhG) (M : rhM) (v0 : Nat) (v1 : Int32) (v2 : Int32) (v3 : Int32) (v4 : Int32) : Option (Int32 × rhM) :=
  rhck (Γ.2.2.1 v0 = 10) <|
  (f_X9_roomBeside Γ M v0 v3 v4).bind fun r2 =>
  rhck (Γ.2.2.1 (M.2.2 v0 8) = 15) <|
  rhck (0 ≤ (v2).toInt ∧ (v2).toInt < (Γ.2.2.2 (M.2.2 v0 8) : Nat)) <|
  rhck (Γ.2.2.1 (M.2.2 v0 7) = 15) <|
  rhck (0 ≤ (v2).toInt ∧ (v2).toInt < (Γ.2.2.2 (M.2.2 v0 7) : Nat)) <|
  rhck (Γ.2.2.1 (M.2.2 v0 11) = 2) <|
  (f_X1_comesTo Γ M (M.2.2 v0 11) v1 v2 v3 r2 (M.1 (M.2.2 v0 8) v2.toNatClampNeg) (M.1 (M.2.2 v0 7) v2.toNatClampNeg)).bind fun r8 =>
  some ((r8.1, r8.2))
set_option maxHeartbeats 4000000 in
set_option maxRecDepth 100000 in
theorem b_X9_asks {E : rhE} {Γ : rhG} : ∀ (M : rhM) (v0 : Nat) (v1 : Int32) (v2 : Int32) (v3 : Int32) (v4 : Int32), rhF E 6 5 yX9_asks cX9_asks (some .int) Γ (rhe1I Γ) (f_X9_asks Γ M v0 v1 v2 v3 v4) 0 [(0, rhR v0), (1, rhI v1), (2, rhI v2), (3, rhI v3), (4, rhI v4)] [] Γ M := by
  intro M v0 v1 v2 v3 v4
  rw [f_X9_asks]
  refine rhF.aload_n (pc := 0) dX9_asks_0 0 rfl ?_
  refine rhF.ck (fun h1 => ?_)
  refine rhF.get (pc := 1) (rhR _) dX9_asks_1 fl_X9_31 h1 rfl ?_
  refine rhF.iload_n (pc := 4) dX9_asks_4 1 rfl ?_
  refine rhF.iload_n (pc := 5) dX9_asks_5 2 rfl ?_
  refine rhF.iload_n (pc := 6) dX9_asks_6 3 rfl ?_
  refine rhF.aload_n (pc := 7) dX9_asks_7 0 rfl ?_
  refine rhF.iload_n (pc := 8) dX9_asks_8 3 rfl ?_
  refine rhF.iload (pc := 9) dX9_asks_9 4 rfl ?_
  refine rhF.callV (pc := 11) (ci := 9) (embc := rhe0I _ _) [rhI _, rhI _] dX9_asks_11 ml_X9_59 mv_X9_roomBeside ⟨_, rfl, rfl⟩ h1 (c_X9_roomBeside _ _ _ _ _ _) (by decide) (by decide) rfl (Nat.le_of_ble_eq_true rfl) (fun r2 _ => ?_)
  refine rhF.aload_n (pc := 14) dX9_asks_14 0 rfl ?_
  refine rhF.get (pc := 15) (rhR _) dX9_asks_15 fl_X9_18 h1 rfl ?_
  refine rhF.iload_n (pc := 18) dX9_asks_18 2 rfl ?_
  refine rhF.ck (fun h3 => ?_)
  refine rhF.ck (fun h4 => ?_)
  refine rhF.iald (pc := 19) dX9_asks_19 h3 h4 ?_
  refine rhF.aload_n (pc := 20) dX9_asks_20 0 rfl ?_
  refine rhF.get (pc := 21) (rhR _) dX9_asks_21 fl_X9_15 h1 rfl ?_
  refine rhF.iload_n (pc := 24) dX9_asks_24 2 rfl ?_
  refine rhF.ck (fun h5 => ?_)
  refine rhF.ck (fun h6 => ?_)
  refine rhF.iald (pc := 25) dX9_asks_25 h5 h6 ?_
  refine rhF.ck (fun h7 => ?_)
  refine rhF.callV (pc := 26) (ci := 1) (embc := rhe1I _) [rhI _, rhI _, rhI _, rhI _, rhI _, rhI _] dX9_asks_26 ml_X9_63 mv_X1_comesTo ⟨_, rfl, rfl⟩ h7 (c_X1_comesTo _ _ _ _ _ _ _ _ _ _) (by decide) (by decide) rfl (Nat.le_of_ble_eq_true rfl) (fun r8 _ => ?_)
  exact rhF.zret (pc := 29) dX9_asks_29 rfl rfl rfl
theorem c_X9_asks (E : rhE) (Γ : rhG) (M : rhM) (v0 : Nat) (v1 : Int32) (v2 : Int32) (v3 : Int32) (v4 : Int32) : ∀ a, f_X9_asks Γ M v0 v1 v2 v3 v4 = some a → rhC E 6 yX9_asks cX9_asks 5 (some .int) [rhR v0, rhI v1, rhI v2, rhI v3, rhI v4] Γ M ((rhe1I Γ) a) := rhF.met (by decide +kernel) (Nat.le_of_ble_eq_true rfl) (b_X9_asks M v0 v1 v2 v3 v4)
def f_X9_init (Γ : rhG) (M : rhM) (v0 : Nat) : Option (rhG × rhM) :=
  rhck (Γ.2.2.1 v0 = 10) <|
  rhck (0 ≤ (5 : Int32).toInt ∧ (5 : Int32).toInt ≤ 67108864) <|
  let M4 := rhmn M (Γ.1 + 1)
  let G3 := rhgn Γ 15 (5 : Int32).toNatClampNeg (5 : Int32).toNatClampNeg
  rhck (G3.2.2.1 v0 = 10) <|
  let M6 := rhsr M4 v0 6 ((Γ.1 + 1))
  rhck (0 ≤ (256 : Int32).toInt ∧ (256 : Int32).toInt ≤ 67108864) <|
  let M9 := rhmn M6 (G3.1 + 1)
  let G8 := rhgn G3 15 (256 : Int32).toNatClampNeg (256 : Int32).toNatClampNeg
  rhck (G8.2.2.1 v0 = 10) <|
  let M11 := rhsr M9 v0 7 ((G3.1 + 1))
  rhck (0 ≤ (256 : Int32).toInt ∧ (256 : Int32).toInt ≤ 67108864) <|
  let M14 := rhmn M11 (G8.1 + 1)
  let G13 := rhgn G8 15 (256 : Int32).toNatClampNeg (256 : Int32).toNatClampNeg
  rhck (G13.2.2.1 v0 = 10) <|
  let M16 := rhsr M14 v0 8 ((G8.1 + 1))
  rhck (0 ≤ (64 : Int32).toInt ∧ (64 : Int32).toInt ≤ 67108864) <|
  let M19 := rhmn M16 (G13.1 + 1)
  let G18 := rhgn G13 15 (64 : Int32).toNatClampNeg (64 : Int32).toNatClampNeg
  rhck (G18.2.2.1 v0 = 10) <|
  let M21 := rhsr M19 v0 9 ((G13.1 + 1))
  rhck (0 ≤ (64 : Int32).toInt ∧ (64 : Int32).toInt ≤ 67108864) <|
  let M24 := rhmn M21 (G18.1 + 1)
  let G23 := rhgn G18 17 (64 : Int32).toNatClampNeg (64 : Int32).toNatClampNeg
  rhck (G23.2.2.1 v0 = 10) <|
  let M26 := rhsr M24 v0 10 ((G18.1 + 1))
  let M28 := rhmn M26 (G23.1 + 1)
  let G27 := rhgn G23 2 0 6
  rhck (G27.2.2.1 ((G23.1 + 1)) = 2) <|
  (f_X1_init G27 M28 ((G23.1 + 1))).bind fun r30 =>
  rhck (r30.1.2.2.1 v0 = 10) <|
  let M32 := rhsr r30.2 v0 11 ((G23.1 + 1))
  (f_X9_clear r30.1 M32 v0).bind fun r33 =>
  some (r30.1, r33)
set_option maxHeartbeats 4000000 in
set_option maxRecDepth 100000 in
theorem b_X9_init {E : rhE} {Γ0 : rhG} : ∀ (Γ : rhG) (M : rhM) (v0 : Nat), rhF E 6 1 yX9_init cX9_init none Γ0 rhe2U (f_X9_init Γ M v0) 0 [(0, rhR v0)] [] Γ M := by
  intro Γ M v0
  rw [f_X9_init]
  refine rhF.aload_n (pc := 0) dX9_init_0 0 rfl ?_
  refine rhF.ck (fun h1 => ?_)
  refine rhF.objInit (pc := 1) dX9_init_1 oi_X9_3 (fun z => absurd (h1.symm.trans z) (by decide)) (by decide) (Nat.le_of_ble_eq_true rfl) ?_
  refine rhF.aload_n (pc := 4) dX9_init_4 0 rfl ?_
  refine rhF.iconst (pc := 5) (v := 5) dX9_init_5 (by decide) ?_
  refine rhF.ck (fun h2 => ?_)
  refine rhF.newI (pc := 6) dX9_init_6 ac_int h2 ?_
  refine rhF.ck (fun h5 => ?_)
  refine rhF.putr (pc := 8) dX9_init_8 fl_X9_9 h5 (fun q hq => by cases hq; exact Or.inr ⟨rfl, rfl, rfl⟩) (Or.inr ⟨_, rfl⟩) (fun _ => rfl) ?_
  refine rhF.aload_n (pc := 11) dX9_init_11 0 rfl ?_
  refine rhF.sipush (pc := 12) (v := 256) dX9_init_12 (by decide) ?_
  refine rhF.ck (fun h7 => ?_)
  refine rhF.newI (pc := 15) dX9_init_15 ac_int h7 ?_
  refine rhF.ck (fun h10 => ?_)
  refine rhF.putr (pc := 17) dX9_init_17 fl_X9_15 h10 (fun q hq => by cases hq; exact Or.inr ⟨rfl, rfl, rfl⟩) (Or.inr ⟨_, rfl⟩) (fun _ => rfl) ?_
  refine rhF.aload_n (pc := 20) dX9_init_20 0 rfl ?_
  refine rhF.sipush (pc := 21) (v := 256) dX9_init_21 (by decide) ?_
  refine rhF.ck (fun h12 => ?_)
  refine rhF.newI (pc := 24) dX9_init_24 ac_int h12 ?_
  refine rhF.ck (fun h15 => ?_)
  refine rhF.putr (pc := 26) dX9_init_26 fl_X9_18 h15 (fun q hq => by cases hq; exact Or.inr ⟨rfl, rfl, rfl⟩) (Or.inr ⟨_, rfl⟩) (fun _ => rfl) ?_
  refine rhF.aload_n (pc := 29) dX9_init_29 0 rfl ?_
  refine rhF.bipush (pc := 30) (v := 64) dX9_init_30 (by decide) ?_
  refine rhF.ck (fun h17 => ?_)
  refine rhF.newI (pc := 32) dX9_init_32 ac_int h17 ?_
  refine rhF.ck (fun h20 => ?_)
  refine rhF.putr (pc := 34) dX9_init_34 fl_X9_21 h20 (fun q hq => by cases hq; exact Or.inr ⟨rfl, rfl, rfl⟩) (Or.inr ⟨_, rfl⟩) (fun _ => rfl) ?_
  refine rhF.aload_n (pc := 37) dX9_init_37 0 rfl ?_
  refine rhF.bipush (pc := 38) (v := 64) dX9_init_38 (by decide) ?_
  refine rhF.ck (fun h22 => ?_)
  refine rhF.newZ (pc := 40) dX9_init_40 ac_boolean h22 ?_
  refine rhF.ck (fun h25 => ?_)
  refine rhF.putr (pc := 42) dX9_init_42 fl_X9_24 h25 (fun q hq => by cases hq; exact Or.inr ⟨rfl, rfl, rfl⟩) (Or.inr ⟨_, rfl⟩) (fun _ => rfl) ?_
  refine rhF.aload_n (pc := 45) dX9_init_45 0 rfl ?_
  refine rhF.new (pc := 46) (ci := 1) dX9_init_46 nw_X9_28 ?_
  refine rhF.dupr (pc := 49) dX9_init_49 ?_
  refine rhF.ck (fun h29 => ?_)
  refine rhF.callIN (pc := 50) (embc := rhe2U) "RailHouses" [] dX9_init_50 (by decide +kernel) ne_X9_30 mi_X1_init (fun z => absurd (h29.symm.trans z) (by decide)) (c_X1_init _ _ _ _) (by decide) (by decide) rfl (Nat.le_of_ble_eq_true rfl) (fun r30 _ => ?_)
  refine rhF.ck (fun h31 => ?_)
  refine rhF.putr (pc := 53) dX9_init_53 fl_X9_31 h31 (fun q hq => by cases hq; exact Or.inr ⟨rfl, rfl, rfl⟩) (Or.inl ⟨_, rfl⟩) (fun _ => rfl) ?_
  refine rhF.aload_n (pc := 56) dX9_init_56 0 rfl ?_
  refine rhF.callV (pc := 57) (ci := 9) (embc := rhe1U _) [] dX9_init_57 ml_X9_35 mv_X9_clear ⟨_, rfl, rfl⟩ h31 (c_X9_clear _ _ _ _) (by decide) (by decide) rfl (Nat.le_of_ble_eq_true rfl) (fun r33 _ => ?_)
  exact rhF.vret (pc := 60) dX9_init_60 rfl rfl
theorem c_X9_init (E : rhE) (Γ : rhG) (M : rhM) (v0 : Nat) : ∀ a, f_X9_init Γ M v0 = some a → rhC E 6 yX9_init cX9_init 1 none [rhR v0] Γ M (rhe2U a) := rhF.met (by decide +kernel) (Nat.le_of_ble_eq_true rfl) (b_X9_init (Γ0 := Γ) Γ M v0)
def f_X11_about (Γ : rhG) (M : rhM) (v0 : Nat) (v1 : Int32) : Option (Int32) :=
  if v1 = 0 then
    (rhck (Γ.2.2.1 v0 = 12) <|
    rhck (Γ.2.2.1 (M.2.2 v0 3) = 10) <|
    some (M.1 (M.2.2 v0 3) 1))
  else
  if v1 = 1 then
    (rhck (Γ.2.2.1 v0 = 12) <|
    rhck (Γ.2.2.1 (M.2.2 v0 3) = 10) <|
    some (M.1 (M.2.2 v0 3) 0))
  else
  if v1 = 2 then
    (rhck (Γ.2.2.1 v0 = 12) <|
    rhck (Γ.2.2.1 (M.2.2 v0 7) = 4) <|
    some (M.1 (M.2.2 v0 7) 1))
  else
  if v1 = 3 then
    (rhck (Γ.2.2.1 v0 = 12) <|
    rhck (Γ.2.2.1 (M.2.2 v0 8) = 4) <|
    some (M.1 (M.2.2 v0 8) 1))
  else
  if v1 = 4 then
    (rhck (Γ.2.2.1 v0 = 12) <|
    some (M.1 v0 11))
  else
  if v1 = 5 then
    (rhck (Γ.2.2.1 v0 = 12) <|
    rhck (Γ.2.2.1 (M.2.2 v0 14) = 7) <|
    some (M.1 (M.2.2 v0 14) 0))
  else
  if v1 = 6 then
    (rhck (Γ.2.2.1 v0 = 12) <|
    some (M.1 v0 16))
  else
  if v1 = 7 then
    (rhck (Γ.2.2.1 v0 = 12) <|
    some (M.1 v0 1))
  else
  if v1 = 8 then
    (rhck (Γ.2.2.1 v0 = 12) <|
    rhck (Γ.2.2.1 (M.2.2 v0 7) = 4) <|
    some (M.1 (M.2.2 v0 7) 2))
  else
  if v1 = 9 then
    (rhck (Γ.2.2.1 v0 = 12) <|
    rhck (Γ.2.2.1 (M.2.2 v0 3) = 10) <|
    rhck (Γ.2.2.1 (M.2.2 (M.2.2 v0 3) 11) = 2) <|
    some (M.1 (M.2.2 (M.2.2 v0 3) 11) 0))
  else
  if v1 = 10 then
    (rhck (Γ.2.2.1 v0 = 12) <|
    rhck (Γ.2.2.1 (M.2.2 v0 9) = 4) <|
    some (M.1 (M.2.2 v0 9) 1))
  else
  some ((-1))
set_option maxHeartbeats 4000000 in
set_option maxRecDepth 100000 in
theorem b_X11_about {E : rhE} {Γ : rhG} {M : rhM} : ∀ (v0 : Nat) (v1 : Int32), rhF E 1 2 yX11_about cX11_about (some .int) Γ (rhe0I Γ M) (f_X11_about Γ M v0 v1) 0 [(0, rhR v0), (1, rhI v1)] [] Γ M := by
  intro v0 v1
  rw [f_X11_about]
  refine rhF.iload_n (pc := 0) dX11_about_0 1 rfl ?_
  refine rhF.ite (fun h1 => ?_) (fun h1 => ?_)
  · refine rhF.tsIn (pc := 1) 60 0 dX11_about_1 (by rw [h1]; decide) (by decide) rfl (by decide) ?_
    refine rhF.aload_n (pc := 60) dX11_about_60 0 rfl ?_
    refine rhF.ck (fun h2 => ?_)
    refine rhF.get (pc := 61) (rhR _) dX11_about_61 fl_X11_23 h2 rfl ?_
    refine rhF.ck (fun h3 => ?_)
    refine rhF.get (pc := 64) (rhI _) dX11_about_64 fl_X11_84 h3 rfl ?_
    exact rhF.zret (pc := 67) dX11_about_67 rfl rfl rfl
  · skip
    refine rhF.ite (fun h4 => ?_) (fun h4 => ?_)
    · refine rhF.tsIn (pc := 1) 68 1 dX11_about_1 (by rw [h4]; decide) (by decide) rfl (by decide) ?_
      refine rhF.aload_n (pc := 68) dX11_about_68 0 rfl ?_
      refine rhF.ck (fun h5 => ?_)
      refine rhF.get (pc := 69) (rhR _) dX11_about_69 fl_X11_23 h5 rfl ?_
      refine rhF.ck (fun h6 => ?_)
      refine rhF.get (pc := 72) (rhI _) dX11_about_72 fl_X11_141 h6 rfl ?_
      exact rhF.zret (pc := 75) dX11_about_75 rfl rfl rfl
    · skip
      refine rhF.ite (fun h7 => ?_) (fun h7 => ?_)
      · refine rhF.tsIn (pc := 1) 76 2 dX11_about_1 (by rw [h7]; decide) (by decide) rfl (by decide) ?_
        refine rhF.aload_n (pc := 76) dX11_about_76 0 rfl ?_
        refine rhF.ck (fun h8 => ?_)
        refine rhF.get (pc := 77) (rhR _) dX11_about_77 fl_X11_45 h8 rfl ?_
        refine rhF.ck (fun h9 => ?_)
        refine rhF.get (pc := 80) (rhI _) dX11_about_80 fl_X11_184 h9 rfl ?_
        exact rhF.zret (pc := 83) dX11_about_83 rfl rfl rfl
      · skip
        refine rhF.ite (fun h10 => ?_) (fun h10 => ?_)
        · refine rhF.tsIn (pc := 1) 84 3 dX11_about_1 (by rw [h10]; decide) (by decide) rfl (by decide) ?_
          refine rhF.aload_n (pc := 84) dX11_about_84 0 rfl ?_
          refine rhF.ck (fun h11 => ?_)
          refine rhF.get (pc := 85) (rhR _) dX11_about_85 fl_X11_49 h11 rfl ?_
          refine rhF.ck (fun h12 => ?_)
          refine rhF.get (pc := 88) (rhI _) dX11_about_88 fl_X11_184 h12 rfl ?_
          exact rhF.zret (pc := 91) dX11_about_91 rfl rfl rfl
        · skip
          refine rhF.ite (fun h13 => ?_) (fun h13 => ?_)
          · refine rhF.tsIn (pc := 1) 92 4 dX11_about_1 (by rw [h13]; decide) (by decide) rfl (by decide) ?_
            refine rhF.aload_n (pc := 92) dX11_about_92 0 rfl ?_
            refine rhF.ck (fun h14 => ?_)
            refine rhF.get (pc := 93) (rhI _) dX11_about_93 fl_X11_101 h14 rfl ?_
            exact rhF.zret (pc := 96) dX11_about_96 rfl rfl rfl
          · skip
            refine rhF.ite (fun h15 => ?_) (fun h15 => ?_)
            · refine rhF.tsIn (pc := 1) 97 5 dX11_about_1 (by rw [h15]; decide) (by decide) rfl (by decide) ?_
              refine rhF.aload_n (pc := 97) dX11_about_97 0 rfl ?_
              refine rhF.ck (fun h16 => ?_)
              refine rhF.get (pc := 98) (rhR _) dX11_about_98 fl_X11_66 h16 rfl ?_
              refine rhF.ck (fun h17 => ?_)
              refine rhF.get (pc := 101) (rhI _) dX11_about_101 fl_X11_304 h17 rfl ?_
              exact rhF.zret (pc := 104) dX11_about_104 rfl rfl rfl
            · skip
              refine rhF.ite (fun h18 => ?_) (fun h18 => ?_)
              · refine rhF.tsIn (pc := 1) 105 6 dX11_about_1 (by rw [h18]; decide) (by decide) rfl (by decide) ?_
                refine rhF.aload_n (pc := 105) dX11_about_105 0 rfl ?_
                refine rhF.ck (fun h19 => ?_)
                refine rhF.get (pc := 106) (rhI _) dX11_about_106 fl_X11_281 h19 rfl ?_
                exact rhF.zret (pc := 109) dX11_about_109 rfl rfl rfl
              · skip
                refine rhF.ite (fun h20 => ?_) (fun h20 => ?_)
                · refine rhF.tsIn (pc := 1) 110 7 dX11_about_1 (by rw [h20]; decide) (by decide) rfl (by decide) ?_
                  refine rhF.aload_n (pc := 110) dX11_about_110 0 rfl ?_
                  refine rhF.ck (fun h21 => ?_)
                  refine rhF.get (pc := 111) (rhI _) dX11_about_111 fl_X11_73 h21 rfl ?_
                  exact rhF.zret (pc := 114) dX11_about_114 rfl rfl rfl
                · skip
                  refine rhF.ite (fun h22 => ?_) (fun h22 => ?_)
                  · refine rhF.tsIn (pc := 1) 115 8 dX11_about_1 (by rw [h22]; decide) (by decide) rfl (by decide) ?_
                    refine rhF.aload_n (pc := 115) dX11_about_115 0 rfl ?_
                    refine rhF.ck (fun h23 => ?_)
                    refine rhF.get (pc := 116) (rhR _) dX11_about_116 fl_X11_45 h23 rfl ?_
                    refine rhF.ck (fun h24 => ?_)
                    refine rhF.get (pc := 119) (rhI _) dX11_about_119 fl_X11_177 h24 rfl ?_
                    exact rhF.zret (pc := 122) dX11_about_122 rfl rfl rfl
                  · skip
                    refine rhF.ite (fun h25 => ?_) (fun h25 => ?_)
                    · refine rhF.tsIn (pc := 1) 123 9 dX11_about_1 (by rw [h25]; decide) (by decide) rfl (by decide) ?_
                      refine rhF.aload_n (pc := 123) dX11_about_123 0 rfl ?_
                      refine rhF.ck (fun h26 => ?_)
                      refine rhF.get (pc := 124) (rhR _) dX11_about_124 fl_X11_23 h26 rfl ?_
                      refine rhF.ck (fun h27 => ?_)
                      refine rhF.get (pc := 127) (rhR _) dX11_about_127 fl_X11_305 h27 rfl ?_
                      refine rhF.ck (fun h28 => ?_)
                      refine rhF.get (pc := 130) (rhI _) dX11_about_130 fl_X11_309 h28 rfl ?_
                      exact rhF.zret (pc := 133) dX11_about_133 rfl rfl rfl
                    · skip
                      refine rhF.ite (fun h29 => ?_) (fun h29 => ?_)
                      · refine rhF.tsIn (pc := 1) 134 10 dX11_about_1 (by rw [h29]; decide) (by decide) rfl (by decide) ?_
                        refine rhF.aload_n (pc := 134) dX11_about_134 0 rfl ?_
                        refine rhF.ck (fun h30 => ?_)
                        refine rhF.get (pc := 135) (rhR _) dX11_about_135 fl_X11_52 h30 rfl ?_
                        refine rhF.ck (fun h31 => ?_)
                        refine rhF.get (pc := 138) (rhI _) dX11_about_138 fl_X11_184 h31 rfl ?_
                        exact rhF.zret (pc := 141) dX11_about_141 rfl rfl rfl
                      · skip
                        have zh1 := rhne h1 (n := 0) (by decide)
                        have zh4 := rhne h4 (n := 1) (by decide)
                        have zh7 := rhne h7 (n := 2) (by decide)
                        have zh10 := rhne h10 (n := 3) (by decide)
                        have zh13 := rhne h13 (n := 4) (by decide)
                        have zh15 := rhne h15 (n := 5) (by decide)
                        have zh18 := rhne h18 (n := 6) (by decide)
                        have zh20 := rhne h20 (n := 7) (by decide)
                        have zh22 := rhne h22 (n := 8) (by decide)
                        have zh25 := rhne h25 (n := 9) (by decide)
                        have zh29 := rhne h29 (n := 10) (by decide)
                        refine rhF.tsOut (pc := 1) 142 dX11_about_1 (by omega) (by decide) ?_
                        refine rhF.iconst (pc := 142) (v := (-1)) dX11_about_142 (by decide) ?_
                        exact rhF.zret (pc := 143) dX11_about_143 rfl rfl rfl
theorem c_X11_about (E : rhE) (Γ : rhG) (M : rhM) (v0 : Nat) (v1 : Int32) : ∀ a, f_X11_about Γ M v0 v1 = some a → rhC E 1 yX11_about cX11_about 2 (some .int) [rhR v0, rhI v1] Γ M ((rhe0I Γ M) a) := rhF.met (by decide +kernel) (Nat.le_of_ble_eq_true rfl) (b_X11_about v0 v1)
def f_X11_isRail (Γ : rhG) (M : rhM) (v0 : Nat) (v1 : Int32) : Option (Int32) :=
  if v1 < 0 then
    (some 0)
  else
    rhck (Γ.2.2.1 v0 = 12) <|
    rhck (Γ.2.2.1 (M.2.2 v0 3) = 10) <|
    if v1 < (M.1 (M.2.2 v0 3) 0) then
      (some 1)
    else
      some 0
set_option maxHeartbeats 4000000 in
set_option maxRecDepth 100000 in
theorem b_X11_isRail {E : rhE} {Γ : rhG} {M : rhM} : ∀ (v0 : Nat) (v1 : Int32), rhF E 1 2 yX11_isRail cX11_isRail (some .boolean) Γ (rhe0I Γ M) (f_X11_isRail Γ M v0 v1) 0 [(0, rhR v0), (1, rhI v1)] [] Γ M := by
  intro v0 v1
  rw [f_X11_isRail]
  refine rhF.iload_n (pc := 0) dX11_isRail_0 1 rfl ?_
  refine rhF.if_lt (pc := 1) 19 dX11_isRail_1 (by decide) (fun h1 => ?_) (fun h1 => ?_)
  · refine rhF.iconst (pc := 19) (v := 0) dX11_isRail_19 (by decide) ?_
    exact rhF.zret (pc := 20) dX11_isRail_20 rfl rfl rfl
  · refine rhF.iload_n (pc := 4) dX11_isRail_4 1 rfl ?_
    refine rhF.aload_n (pc := 5) dX11_isRail_5 0 rfl ?_
    refine rhF.ck (fun h2 => ?_)
    refine rhF.get (pc := 6) (rhR _) dX11_isRail_6 fl_X11_23 h2 rfl ?_
    refine rhF.ck (fun h3 => ?_)
    refine rhF.get (pc := 9) (rhI _) dX11_isRail_9 fl_X11_141 h3 rfl ?_
    refine rhF.icmp_ge (pc := 12) 19 dX11_isRail_12 (by decide) (fun h4 => ?_) (fun h4 => ?_)
    · refine rhF.iconst (pc := 15) (v := 1) dX11_isRail_15 (by decide) ?_
      refine rhF.goto (pc := 16) 20 dX11_isRail_16 (by decide) ?_
      exact rhF.zret (pc := 20) dX11_isRail_20 rfl rfl rfl
    · refine rhF.iconst (pc := 19) (v := 0) dX11_isRail_19 (by decide) ?_
      exact rhF.zret (pc := 20) dX11_isRail_20 rfl rfl rfl
theorem c_X11_isRail (E : rhE) (Γ : rhG) (M : rhM) (v0 : Nat) (v1 : Int32) : ∀ a, f_X11_isRail Γ M v0 v1 = some a → rhC E 1 yX11_isRail cX11_isRail 2 (some .boolean) [rhR v0, rhI v1] Γ M ((rhe0I Γ M) a) := rhF.met (by decide +kernel) (Nat.le_of_ble_eq_true rfl) (b_X11_isRail v0 v1)
def f_X11_areUnlikeRails (Γ : rhG) (M : rhM) (v0 : Nat) (v1 : Int32) (v2 : Int32) : Option (Int32) :=
  rhck (Γ.2.2.1 v0 = 12) <|
  (f_X11_isRail Γ M v0 v1).bind fun r2 =>
  if r2 = 0 then
    (some 0)
  else
    (f_X11_isRail Γ M v0 v2).bind fun r4 =>
    if r4 = 0 then
      (some 0)
    else
      if v1 = v2 then
        (some 0)
      else
        some 1
set_option maxHeartbeats 4000000 in
set_option maxRecDepth 100000 in
theorem b_X11_areUnlikeRails {E : rhE} {Γ : rhG} {M : rhM} : ∀ (v0 : Nat) (v1 : Int32) (v2 : Int32), rhF E 5 3 yX11_areUnlikeRails cX11_areUnlikeRails (some .boolean) Γ (rhe0I Γ M) (f_X11_areUnlikeRails Γ M v0 v1 v2) 0 [(0, rhR v0), (1, rhI v1), (2, rhI v2)] [] Γ M := by
  intro v0 v1 v2
  rw [f_X11_areUnlikeRails]
  refine rhF.aload_n (pc := 0) dX11_areUnlikeRails_0 0 rfl ?_
  refine rhF.iload_n (pc := 1) dX11_areUnlikeRails_1 1 rfl ?_
  refine rhF.ck (fun h1 => ?_)
  refine rhF.callV (pc := 2) (ci := 11) (embc := rhe0I _ _) [rhI _] dX11_areUnlikeRails_2 ml_X11_113 mv_X11_isRail ⟨_, rfl, rfl⟩ h1 (c_X11_isRail _ _ _ _ _) (by decide) (by decide) rfl (Nat.le_of_ble_eq_true rfl) (fun r2 _ => ?_)
  refine rhF.if_eq (pc := 5) 25 dX11_areUnlikeRails_5 (by decide) (fun h3 => ?_) (fun h3 => ?_)
  · refine rhF.iconst (pc := 25) (v := 0) dX11_areUnlikeRails_25 (by decide) ?_
    exact rhF.zret (pc := 26) dX11_areUnlikeRails_26 rfl rfl rfl
  · refine rhF.aload_n (pc := 8) dX11_areUnlikeRails_8 0 rfl ?_
    refine rhF.iload_n (pc := 9) dX11_areUnlikeRails_9 2 rfl ?_
    refine rhF.callV (pc := 10) (ci := 11) (embc := rhe0I _ _) [rhI _] dX11_areUnlikeRails_10 ml_X11_113 mv_X11_isRail ⟨_, rfl, rfl⟩ h1 (c_X11_isRail _ _ _ _ _) (by decide) (by decide) rfl (Nat.le_of_ble_eq_true rfl) (fun r4 _ => ?_)
    refine rhF.if_eq (pc := 13) 25 dX11_areUnlikeRails_13 (by decide) (fun h5 => ?_) (fun h5 => ?_)
    · refine rhF.iconst (pc := 25) (v := 0) dX11_areUnlikeRails_25 (by decide) ?_
      exact rhF.zret (pc := 26) dX11_areUnlikeRails_26 rfl rfl rfl
    · refine rhF.iload_n (pc := 16) dX11_areUnlikeRails_16 1 rfl ?_
      refine rhF.iload_n (pc := 17) dX11_areUnlikeRails_17 2 rfl ?_
      refine rhF.icmp_eq (pc := 18) 25 dX11_areUnlikeRails_18 (by decide) (fun h6 => ?_) (fun h6 => ?_)
      · refine rhF.iconst (pc := 25) (v := 0) dX11_areUnlikeRails_25 (by decide) ?_
        exact rhF.zret (pc := 26) dX11_areUnlikeRails_26 rfl rfl rfl
      · refine rhF.iconst (pc := 21) (v := 1) dX11_areUnlikeRails_21 (by decide) ?_
        refine rhF.goto (pc := 22) 26 dX11_areUnlikeRails_22 (by decide) ?_
        exact rhF.zret (pc := 26) dX11_areUnlikeRails_26 rfl rfl rfl
theorem c_X11_areUnlikeRails (E : rhE) (Γ : rhG) (M : rhM) (v0 : Nat) (v1 : Int32) (v2 : Int32) : ∀ a, f_X11_areUnlikeRails Γ M v0 v1 v2 = some a → rhC E 5 yX11_areUnlikeRails cX11_areUnlikeRails 3 (some .boolean) [rhR v0, rhI v1, rhI v2] Γ M ((rhe0I Γ M) a) := rhF.met (by decide +kernel) (Nat.le_of_ble_eq_true rfl) (b_X11_areUnlikeRails v0 v1 v2)
def f_X11_canBeFrom (Γ : rhG) (M : rhM) (v0 : Nat) (v1 : Nat) (v2 : Int32) (v3 : Int32) (v4 : Int32) : Option (Int32) :=
  rhck (Γ.2.2.1 v0 = 12) <|
  (f_X11_areUnlikeRails Γ M v0 v2 v4).bind fun r2 =>
  if r2 = 0 then
    (some 0)
  else
    if v3 < 1 then
      (some 0)
    else
      rhck (Γ.2.2.1 v1 = 8) <|
      (f_X7_count Γ M v1 v2).bind fun r6 =>
      if r6 < v3 then
        (some 0)
      else
        some 1
set_option maxHeartbeats 4000000 in
set_option maxRecDepth 100000 in
theorem b_X11_canBeFrom {E : rhE} {Γ : rhG} {M : rhM} : ∀ (v0 : Nat) (v1 : Nat) (v2 : Int32) (v3 : Int32) (v4 : Int32), rhF E 6 5 yX11_canBeFrom cX11_canBeFrom (some .boolean) Γ (rhe0I Γ M) (f_X11_canBeFrom Γ M v0 v1 v2 v3 v4) 0 [(0, rhR v0), (1, rhR v1), (2, rhI v2), (3, rhI v3), (4, rhI v4)] [] Γ M := by
  intro v0 v1 v2 v3 v4
  rw [f_X11_canBeFrom]
  refine rhF.aload_n (pc := 0) dX11_canBeFrom_0 0 rfl ?_
  refine rhF.iload_n (pc := 1) dX11_canBeFrom_1 2 rfl ?_
  refine rhF.iload (pc := 2) dX11_canBeFrom_2 4 rfl ?_
  refine rhF.ck (fun h1 => ?_)
  refine rhF.callV (pc := 4) (ci := 11) (embc := rhe0I _ _) [rhI _, rhI _] dX11_canBeFrom_4 ml_X11_144 mv_X11_areUnlikeRails ⟨_, rfl, rfl⟩ h1 (c_X11_areUnlikeRails _ _ _ _ _ _) (by decide) (by decide) rfl (Nat.le_of_ble_eq_true rfl) (fun r2 _ => ?_)
  refine rhF.if_eq (pc := 7) 28 dX11_canBeFrom_7 (by decide) (fun h3 => ?_) (fun h3 => ?_)
  · refine rhF.iconst (pc := 28) (v := 0) dX11_canBeFrom_28 (by decide) ?_
    exact rhF.zret (pc := 29) dX11_canBeFrom_29 rfl rfl rfl
  · refine rhF.iload_n (pc := 10) dX11_canBeFrom_10 3 rfl ?_
    refine rhF.iconst (pc := 11) (v := 1) dX11_canBeFrom_11 (by decide) ?_
    refine rhF.icmp_lt (pc := 12) 28 dX11_canBeFrom_12 (by decide) (fun h4 => ?_) (fun h4 => ?_)
    · refine rhF.iconst (pc := 28) (v := 0) dX11_canBeFrom_28 (by decide) ?_
      exact rhF.zret (pc := 29) dX11_canBeFrom_29 rfl rfl rfl
    · refine rhF.iload_n (pc := 15) dX11_canBeFrom_15 3 rfl ?_
      refine rhF.aload_n (pc := 16) dX11_canBeFrom_16 1 rfl ?_
      refine rhF.iload_n (pc := 17) dX11_canBeFrom_17 2 rfl ?_
      refine rhF.ck (fun h5 => ?_)
      refine rhF.callV (pc := 18) (ci := 7) (embc := rhe0I _ _) [rhI _] dX11_canBeFrom_18 ml_X11_117 mv_X7_count ⟨_, rfl, rfl⟩ h5 (c_X7_count _ _ _ _ _) (by decide) (by decide) rfl (Nat.le_of_ble_eq_true rfl) (fun r6 _ => ?_)
      refine rhF.icmp_gt (pc := 21) 28 dX11_canBeFrom_21 (by decide) (fun h7 => ?_) (fun h7 => ?_)
      · refine rhF.iconst (pc := 28) (v := 0) dX11_canBeFrom_28 (by decide) ?_
        exact rhF.zret (pc := 29) dX11_canBeFrom_29 rfl rfl rfl
      · refine rhF.iconst (pc := 24) (v := 1) dX11_canBeFrom_24 (by decide) ?_
        refine rhF.goto (pc := 25) 29 dX11_canBeFrom_25 (by decide) ?_
        exact rhF.zret (pc := 29) dX11_canBeFrom_29 rfl rfl rfl
theorem c_X11_canBeFrom (E : rhE) (Γ : rhG) (M : rhM) (v0 : Nat) (v1 : Nat) (v2 : Int32) (v3 : Int32) (v4 : Int32) : ∀ a, f_X11_canBeFrom Γ M v0 v1 v2 v3 v4 = some a → rhC E 6 yX11_canBeFrom cX11_canBeFrom 5 (some .boolean) [rhR v0, rhR v1, rhI v2, rhI v3, rhI v4] Γ M ((rhe0I Γ M) a) := rhF.met (by decide +kernel) (Nat.le_of_ble_eq_true rfl) (b_X11_canBeFrom v0 v1 v2 v3 v4)
def f_X11_asked (Γ : rhG) (M : rhM) (v0 : Nat) (v1 : Int32) (v2 : Int32) (v3 : Int32) : Option (Int32 × rhM) :=
  rhck (Γ.2.2.1 v0 = 12) <|
  (f_X11_canBeFrom Γ M v0 (M.2.2 v0 5) v1 v2 v3).bind fun r2 =>
  if r2 = 0 then
    (some (((-1000000), M)))
  else
    rhck (Γ.2.2.1 (M.2.2 v0 5) = 8) <|
    (f_X7_last Γ M (M.2.2 v0 5) v1 v2).bind fun r5 =>
    rhck (Γ.2.2.1 (M.2.2 (M.2.2 v0 5) 4) = 15) <|
    rhck (0 ≤ (v3).toInt ∧ (v3).toInt < (Γ.2.2.2 (M.2.2 (M.2.2 v0 5) 4) : Nat)) <|
    rhck (Γ.2.2.1 (M.2.2 v0 3) = 10) <|
    (f_X9_asks Γ M (M.2.2 v0 3) v1 r5 v3 (M.1 (M.2.2 (M.2.2 v0 5) 4) v3.toNatClampNeg)).bind fun r9 =>
    some ((r9.1, r9.2))
set_option maxHeartbeats 4000000 in
set_option maxRecDepth 100000 in
theorem b_X11_asked {E : rhE} {Γ : rhG} : ∀ (M : rhM) (v0 : Nat) (v1 : Int32) (v2 : Int32) (v3 : Int32), rhF E 7 4 yX11_asked cX11_asked (some .int) Γ (rhe1I Γ) (f_X11_asked Γ M v0 v1 v2 v3) 0 [(0, rhR v0), (1, rhI v1), (2, rhI v2), (3, rhI v3)] [] Γ M := by
  intro M v0 v1 v2 v3
  rw [f_X11_asked]
  refine rhF.aload_n (pc := 0) dX11_asked_0 0 rfl ?_
  refine rhF.aload_n (pc := 1) dX11_asked_1 0 rfl ?_
  refine rhF.ck (fun h1 => ?_)
  refine rhF.get (pc := 2) (rhR _) dX11_asked_2 fl_X11_33 h1 rfl ?_
  refine rhF.iload_n (pc := 5) dX11_asked_5 1 rfl ?_
  refine rhF.iload_n (pc := 6) dX11_asked_6 2 rfl ?_
  refine rhF.iload_n (pc := 7) dX11_asked_7 3 rfl ?_
  refine rhF.callV (pc := 8) (ci := 11) (embc := rhe0I _ _) [rhR _, rhI _, rhI _, rhI _] dX11_asked_8 ml_X11_148 mv_X11_canBeFrom ⟨_, rfl, rfl⟩ h1 (c_X11_canBeFrom _ _ _ _ _ _ _ _) (by decide) (by decide) rfl (Nat.le_of_ble_eq_true rfl) (fun r2 _ => ?_)
  refine rhF.if_ne (pc := 11) 17 dX11_asked_11 (by decide) (fun h3 => ?_) (fun h3 => ?_)
  · refine rhF.ldc (pc := 14) dX11_asked_14 k_X11_159 ?_
    exact rhF.zret (pc := 16) dX11_asked_16 rfl rfl rfl
  · refine rhF.aload_n (pc := 17) dX11_asked_17 0 rfl ?_
    refine rhF.get (pc := 18) (rhR _) dX11_asked_18 fl_X11_23 h1 rfl ?_
    refine rhF.iload_n (pc := 21) dX11_asked_21 1 rfl ?_
    refine rhF.aload_n (pc := 22) dX11_asked_22 0 rfl ?_
    refine rhF.get (pc := 23) (rhR _) dX11_asked_23 fl_X11_33 h1 rfl ?_
    refine rhF.iload_n (pc := 26) dX11_asked_26 1 rfl ?_
    refine rhF.iload_n (pc := 27) dX11_asked_27 2 rfl ?_
    refine rhF.ck (fun h4 => ?_)
    refine rhF.callV (pc := 28) (ci := 7) (embc := rhe0I _ _) [rhI _, rhI _] dX11_asked_28 ml_X11_152 mv_X7_last ⟨_, rfl, rfl⟩ h4 (c_X7_last _ _ _ _ _ _) (by decide) (by decide) rfl (Nat.le_of_ble_eq_true rfl) (fun r5 _ => ?_)
    refine rhF.iload_n (pc := 31) dX11_asked_31 3 rfl ?_
    refine rhF.aload_n (pc := 32) dX11_asked_32 0 rfl ?_
    refine rhF.get (pc := 33) (rhR _) dX11_asked_33 fl_X11_33 h1 rfl ?_
    refine rhF.get (pc := 36) (rhR _) dX11_asked_36 fl_X11_134 h4 rfl ?_
    refine rhF.iload_n (pc := 39) dX11_asked_39 3 rfl ?_
    refine rhF.ck (fun h6 => ?_)
    refine rhF.ck (fun h7 => ?_)
    refine rhF.iald (pc := 40) dX11_asked_40 h6 h7 ?_
    refine rhF.ck (fun h8 => ?_)
    refine rhF.callV (pc := 41) (ci := 9) (embc := rhe1I _) [rhI _, rhI _, rhI _, rhI _] dX11_asked_41 ml_X11_160 mv_X9_asks ⟨_, rfl, rfl⟩ h8 (c_X9_asks _ _ _ _ _ _ _ _) (by decide) (by decide) rfl (Nat.le_of_ble_eq_true rfl) (fun r9 _ => ?_)
    exact rhF.zret (pc := 44) dX11_asked_44 rfl rfl rfl
theorem c_X11_asked (E : rhE) (Γ : rhG) (M : rhM) (v0 : Nat) (v1 : Int32) (v2 : Int32) (v3 : Int32) : ∀ a, f_X11_asked Γ M v0 v1 v2 v3 = some a → rhC E 7 yX11_asked cX11_asked 4 (some .int) [rhR v0, rhI v1, rhI v2, rhI v3] Γ M ((rhe1I Γ) a) := rhF.met (by decide +kernel) (Nat.le_of_ble_eq_true rfl) (b_X11_asked M v0 v1 v2 v3)
def f_X11_back (Γ : rhG) (M : rhM) (v0 : Nat) (v1 : Int32) : Option (Int32 × rhG × rhM) :=
  if v1 < 0 then
    (some (((-1), Γ, M)))
  else
    if v1 < 3 then
      (rhck (Γ.2.2.1 v0 = 12) <|
      rhck (Γ.2.2.1 (M.2.2 v0 12) = 16) <|
      rhck (0 ≤ (v1).toInt ∧ (v1).toInt < (Γ.2.2.2 (M.2.2 v0 12) : Nat)) <|
      if (M.2.1 (M.2.2 v0 12) v1.toNatClampNeg) = ((-1 : Int64)) then
        (some (((-1), Γ, M)))
      else
        rhck (Γ.2.2.1 (M.2.2 v0 5) = 8) <|
        (f_X7_look Γ M (M.2.2 v0 5) (M.2.2 v0 3) (M.2.1 (M.2.2 v0 12) v1.toNatClampNeg)).bind fun r8 =>
        rhck (Γ.2.2.1 (r8.2.2 v0 13) = 18) <|
        rhck (0 ≤ (v1).toInt ∧ (v1).toInt < (Γ.2.2.2 (r8.2.2 v0 13) : Nat)) <|
        rhck (Γ.2.2.1 (r8.2.2 v0 7) = 4) <|
        (f_X3_copy Γ r8 (r8.2.2 v0 7) (r8.2.2 (r8.2.2 v0 13) v1.toNatClampNeg)).bind fun r12 =>
        rhck (r12.1.2.2.1 v0 = 12) <|
        rhck (r12.1.2.2.1 (r12.2.2.2 v0 7) = 4) <|
        some ((r12.2.1 (r12.2.2.2 v0 7) 1, r12.1, r12.2)))
    else
      some (((-1), Γ, M))
set_option maxHeartbeats 4000000 in
set_option maxRecDepth 100000 in
theorem b_X11_back {E : rhE} {Γ0 : rhG} : ∀ (Γ : rhG) (M : rhM) (v0 : Nat) (v1 : Int32), rhF E 7 2 yX11_back cX11_back (some .int) Γ0 rhe2I (f_X11_back Γ M v0 v1) 0 [(0, rhR v0), (1, rhI v1)] [] Γ M := by
  intro Γ M v0 v1
  rw [f_X11_back]
  refine rhF.iload_n (pc := 0) dX11_back_0 1 rfl ?_
  refine rhF.if_lt (pc := 1) 22 dX11_back_1 (by decide) (fun h1 => ?_) (fun h1 => ?_)
  · refine rhF.iconst (pc := 22) (v := (-1)) dX11_back_22 (by decide) ?_
    exact rhF.zret (pc := 23) dX11_back_23 rfl rfl rfl
  · refine rhF.iload_n (pc := 4) dX11_back_4 1 rfl ?_
    refine rhF.iconst (pc := 5) (v := 3) dX11_back_5 (by decide) ?_
    refine rhF.icmp_ge (pc := 6) 22 dX11_back_6 (by decide) (fun h2 => ?_) (fun h2 => ?_)
    · refine rhF.aload_n (pc := 9) dX11_back_9 0 rfl ?_
      refine rhF.ck (fun h3 => ?_)
      refine rhF.get (pc := 10) (rhR _) dX11_back_10 fl_X11_55 h3 rfl ?_
      refine rhF.iload_n (pc := 13) dX11_back_13 1 rfl ?_
      refine rhF.ck (fun h4 => ?_)
      refine rhF.ck (fun h5 => ?_)
      refine rhF.lald (pc := 14) dX11_back_14 h4 h5 ?_
      refine rhF.ldc2 (pc := 15) dX11_back_15 k_X11_105 ?_
      refine rhF.lcne (pc := 18) 24 dX11_back_18 dX11_back_19 (by decide) (fun h6 => ?_) (fun h6 => ?_)
      · refine rhF.iconst (pc := 22) (v := (-1)) dX11_back_22 (by decide) ?_
        exact rhF.zret (pc := 23) dX11_back_23 rfl rfl rfl
      · refine rhF.aload_n (pc := 24) dX11_back_24 0 rfl ?_
        refine rhF.get (pc := 25) (rhR _) dX11_back_25 fl_X11_33 h3 rfl ?_
        refine rhF.aload_n (pc := 28) dX11_back_28 0 rfl ?_
        refine rhF.get (pc := 29) (rhR _) dX11_back_29 fl_X11_23 h3 rfl ?_
        refine rhF.aload_n (pc := 32) dX11_back_32 0 rfl ?_
        refine rhF.get (pc := 33) (rhR _) dX11_back_33 fl_X11_55 h3 rfl ?_
        refine rhF.iload_n (pc := 36) dX11_back_36 1 rfl ?_
        refine rhF.lald (pc := 37) dX11_back_37 h4 h5 ?_
        refine rhF.ck (fun h7 => ?_)
        refine rhF.callV (pc := 38) (ci := 7) (embc := rhe1U _) [rhR _, rhJ _] dX11_back_38 ml_X11_91 mv_X7_look ⟨_, rfl, rfl⟩ h7 (c_X7_look _ _ _ _ _ _) (by decide) (by decide) rfl (Nat.le_of_ble_eq_true rfl) (fun r8 _ => ?_)
        refine rhF.aload_n (pc := 41) dX11_back_41 0 rfl ?_
        refine rhF.get (pc := 42) (rhR _) dX11_back_42 fl_X11_45 h3 rfl ?_
        refine rhF.aload_n (pc := 45) dX11_back_45 0 rfl ?_
        refine rhF.get (pc := 46) (rhR _) dX11_back_46 fl_X11_59 h3 rfl ?_
        refine rhF.iload_n (pc := 49) dX11_back_49 1 rfl ?_
        refine rhF.ck (fun h9 => ?_)
        refine rhF.ck (fun h10 => ?_)
        refine rhF.aldP (pc := 50) dX11_back_50 h9 h10 ?_
        refine rhF.ck (fun h11 => ?_)
        refine rhF.callV (pc := 51) (ci := 3) (embc := rhe2U) [rhR _] dX11_back_51 ml_X11_300 mv_X3_copy ⟨_, rfl, rfl⟩ h11 (c_X3_copy _ _ _ _ _) (by decide) (by decide) rfl (Nat.le_of_ble_eq_true rfl) (fun r12 _ => ?_)
        refine rhF.aload_n (pc := 54) dX11_back_54 0 rfl ?_
        refine rhF.ck (fun h13 => ?_)
        refine rhF.get (pc := 55) (rhR _) dX11_back_55 fl_X11_45 h13 rfl ?_
        refine rhF.ck (fun h14 => ?_)
        refine rhF.get (pc := 58) (rhI _) dX11_back_58 fl_X11_184 h14 rfl ?_
        exact rhF.zret (pc := 61) dX11_back_61 rfl rfl rfl
    · refine rhF.iconst (pc := 22) (v := (-1)) dX11_back_22 (by decide) ?_
      exact rhF.zret (pc := 23) dX11_back_23 rfl rfl rfl
theorem c_X11_back (E : rhE) (Γ : rhG) (M : rhM) (v0 : Nat) (v1 : Int32) : ∀ a, f_X11_back Γ M v0 v1 = some a → rhC E 7 yX11_back cX11_back 2 (some .int) [rhR v0, rhI v1] Γ M (rhe2I a) := rhF.met (by decide +kernel) (Nat.le_of_ble_eq_true rfl) (b_X11_back (Γ0 := Γ) Γ M v0 v1)
def f_X11_beginTown_58 (Γ : rhG) : Nat → rhM → Nat → Int32 → Option (rhM)
  | 0, _, _, _ => none
  | n + 1, M, v0, v1 =>
    if v1 < 3 then
      (rhck (Γ.2.2.1 v0 = 12) <|
      rhck (Γ.2.2.1 (M.2.2 v0 12) = 16) <|
      rhck (0 ≤ (v1).toInt ∧ (v1).toInt < (Γ.2.2.2 (M.2.2 v0 12) : Nat)) <|
      let M19 := rhsl M (M.2.2 v0 12) (v1 : Int32).toNatClampNeg ((-1 : Int64))
      let x20 : Int32 := v1 + 1
      f_X11_beginTown_58 Γ n M19 v0 x20)
    else
      some M
def f_X11_beginTown (Γ : rhG) (M : rhM) (v0 : Nat) : Option (rhM) :=
  rhck (Γ.2.2.1 v0 = 12) <|
  rhck (Γ.2.2.1 (M.2.2 v0 3) = 10) <|
  rhck (Γ.2.2.1 (M.2.2 v0 5) = 8) <|
  (f_X7_look Γ M (M.2.2 v0 5) (M.2.2 v0 3) (M.2.1 (M.2.2 v0 3) 5)).bind fun r4 =>
  rhck (Γ.2.2.1 (r4.2.2 v0 7) = 4) <|
  (f_X3_clear Γ r4 (r4.2.2 v0 7)).bind fun r6 =>
  rhck (Γ.2.2.1 (r6.2.2 v0 8) = 4) <|
  (f_X3_clear Γ r6 (r6.2.2 v0 8)).bind fun r8 =>
  rhck (Γ.2.2.1 (r8.2.2 v0 9) = 4) <|
  (f_X3_clear Γ r8 (r8.2.2 v0 9)).bind fun r10 =>
  let M11 := rhsl r10 v0 10 ((0 : Int64))
  let M12 := rhsi M11 v0 11 0
  rhck (Γ.2.2.1 (r10.2.2 v0 14) = 7) <|
  (f_X6_clear Γ M12 (r10.2.2 v0 14)).bind fun r14 =>
  f_X11_beginTown_58 Γ rhFU r14 v0 0
set_option maxHeartbeats 4000000 in
set_option maxRecDepth 100000 in
theorem b_X11_beginTown_58 {E : rhE} {Γ : rhG} : ∀ (n : Nat) (M : rhM) (v0 : Nat) (v1 : Int32), rhF E 6 2 yX11_beginTown cX11_beginTown none Γ (rhe1U Γ) (f_X11_beginTown_58 Γ n M v0 v1) 58 [(0, rhR v0), (1, rhI v1)] [] Γ M := by
  intro n
  induction n with
  | zero => intro M v0 v1; rw [f_X11_beginTown_58]; exact rhF.nope
  | succ n ih =>
    intro M v0 v1
    rw [f_X11_beginTown_58]
    refine rhF.iload_n (pc := 58) dX11_beginTown_58 1 rfl ?_
    refine rhF.iconst (pc := 59) (v := 3) dX11_beginTown_59 (by decide) ?_
    refine rhF.icmp_ge (pc := 60) 78 dX11_beginTown_60 (by decide) (fun h15 => ?_) (fun h15 => ?_)
    · refine rhF.aload_n (pc := 63) dX11_beginTown_63 0 rfl ?_
      refine rhF.ck (fun h16 => ?_)
      refine rhF.get (pc := 64) (rhR _) dX11_beginTown_64 fl_X11_55 h16 rfl ?_
      refine rhF.iload_n (pc := 67) dX11_beginTown_67 1 rfl ?_
      refine rhF.ldc2 (pc := 68) dX11_beginTown_68 k_X11_105 ?_
      refine rhF.ck (fun h17 => ?_)
      refine rhF.ck (fun h18 => ?_)
      refine rhF.last (pc := 71) dX11_beginTown_71 h17 h18 ?_
      refine rhF.iinc (pc := 72) (L' := [(1, rhI _), (0, rhR _)]) dX11_beginTown_72 1 rfl rfl (by decide) rfl ?_
      refine rhF.goto (pc := 75) 58 dX11_beginTown_75 (by decide) ?_
      refine rhF.sub [1, 0] rfl ?_
      exact ih _ _ _
    · exact rhF.vret (pc := 78) dX11_beginTown_78 rfl rfl
set_option maxHeartbeats 4000000 in
set_option maxRecDepth 100000 in
theorem b_X11_beginTown {E : rhE} {Γ : rhG} : ∀ (M : rhM) (v0 : Nat), rhF E 6 2 yX11_beginTown cX11_beginTown none Γ (rhe1U Γ) (f_X11_beginTown Γ M v0) 0 [(0, rhR v0)] [] Γ M := by
  intro M v0
  rw [f_X11_beginTown]
  refine rhF.aload_n (pc := 0) dX11_beginTown_0 0 rfl ?_
  refine rhF.ck (fun h1 => ?_)
  refine rhF.get (pc := 1) (rhR _) dX11_beginTown_1 fl_X11_33 h1 rfl ?_
  refine rhF.aload_n (pc := 4) dX11_beginTown_4 0 rfl ?_
  refine rhF.get (pc := 5) (rhR _) dX11_beginTown_5 fl_X11_23 h1 rfl ?_
  refine rhF.aload_n (pc := 8) dX11_beginTown_8 0 rfl ?_
  refine rhF.get (pc := 9) (rhR _) dX11_beginTown_9 fl_X11_23 h1 rfl ?_
  refine rhF.ck (fun h2 => ?_)
  refine rhF.get (pc := 12) (rhJ _) dX11_beginTown_12 fl_X11_87 h2 rfl ?_
  refine rhF.ck (fun h3 => ?_)
  refine rhF.callV (pc := 15) (ci := 7) (embc := rhe1U _) [rhR _, rhJ _] dX11_beginTown_15 ml_X11_91 mv_X7_look ⟨_, rfl, rfl⟩ h3 (c_X7_look _ _ _ _ _ _) (by decide) (by decide) rfl (Nat.le_of_ble_eq_true rfl) (fun r4 _ => ?_)
  refine rhF.aload_n (pc := 18) dX11_beginTown_18 0 rfl ?_
  refine rhF.get (pc := 19) (rhR _) dX11_beginTown_19 fl_X11_45 h1 rfl ?_
  refine rhF.ck (fun h5 => ?_)
  refine rhF.callV (pc := 22) (ci := 3) (embc := rhe1U _) [] dX11_beginTown_22 ml_X11_95 mv_X3_clear ⟨_, rfl, rfl⟩ h5 (c_X3_clear _ _ _ _) (by decide) (by decide) rfl (Nat.le_of_ble_eq_true rfl) (fun r6 _ => ?_)
  refine rhF.aload_n (pc := 25) dX11_beginTown_25 0 rfl ?_
  refine rhF.get (pc := 26) (rhR _) dX11_beginTown_26 fl_X11_49 h1 rfl ?_
  refine rhF.ck (fun h7 => ?_)
  refine rhF.callV (pc := 29) (ci := 3) (embc := rhe1U _) [] dX11_beginTown_29 ml_X11_95 mv_X3_clear ⟨_, rfl, rfl⟩ h7 (c_X3_clear _ _ _ _) (by decide) (by decide) rfl (Nat.le_of_ble_eq_true rfl) (fun r8 _ => ?_)
  refine rhF.aload_n (pc := 32) dX11_beginTown_32 0 rfl ?_
  refine rhF.get (pc := 33) (rhR _) dX11_beginTown_33 fl_X11_52 h1 rfl ?_
  refine rhF.ck (fun h9 => ?_)
  refine rhF.callV (pc := 36) (ci := 3) (embc := rhe1U _) [] dX11_beginTown_36 ml_X11_95 mv_X3_clear ⟨_, rfl, rfl⟩ h9 (c_X3_clear _ _ _ _) (by decide) (by decide) rfl (Nat.le_of_ble_eq_true rfl) (fun r10 _ => ?_)
  refine rhF.aload_n (pc := 39) dX11_beginTown_39 0 rfl ?_
  refine rhF.lconst (pc := 40) (v := 0) dX11_beginTown_40 (by decide) ?_
  refine rhF.putl (pc := 41) dX11_beginTown_41 fl_X11_98 h1 (fun q hq => by cases hq; exact Or.inl rfl) ⟨rfl, rfl⟩ (fun _ => rfl) ?_
  refine rhF.aload_n (pc := 44) dX11_beginTown_44 0 rfl ?_
  refine rhF.iconst (pc := 45) (v := 0) dX11_beginTown_45 (by decide) ?_
  refine rhF.puti (pc := 46) dX11_beginTown_46 fl_X11_101 h1 (fun q hq => by cases hq; exact Or.inl rfl) ⟨rfl, rfl⟩ (fun _ => rfl) ?_
  refine rhF.aload_n (pc := 49) dX11_beginTown_49 0 rfl ?_
  refine rhF.get (pc := 50) (rhR _) dX11_beginTown_50 fl_X11_66 h1 rfl ?_
  refine rhF.ck (fun h13 => ?_)
  refine rhF.callV (pc := 53) (ci := 6) (embc := rhe1U _) [] dX11_beginTown_53 ml_X11_104 mv_X6_clear ⟨_, rfl, rfl⟩ h13 (c_X6_clear _ _ _ _) (by decide) (by decide) rfl (Nat.le_of_ble_eq_true rfl) (fun r14 _ => ?_)
  refine rhF.iconst (pc := 56) (v := 0) dX11_beginTown_56 (by decide) ?_
  refine rhF.istore_n (pc := 57) (L' := [(1, rhI _), (0, rhR _)]) dX11_beginTown_57 (by decide) rfl ?_
  refine rhF.sub [1, 0] rfl ?_
  exact (b_X11_beginTown_58 rhFU) _ _ _
theorem c_X11_beginTown (E : rhE) (Γ : rhG) (M : rhM) (v0 : Nat) : ∀ a, f_X11_beginTown Γ M v0 = some a → rhC E 6 yX11_beginTown cX11_beginTown 2 none [rhR v0] Γ M ((rhe1U Γ) a) := rhF.met (by decide +kernel) (Nat.le_of_ble_eq_true rfl) (b_X11_beginTown M v0)
def f_X11_isHouse (Γ : rhG) (M : rhM) (v0 : Nat) (v1 : Int32) : Option (Int32) :=
  if v1 < 0 then
    (some 0)
  else
    rhck (Γ.2.2.1 v0 = 12) <|
    rhck (Γ.2.2.1 (M.2.2 v0 3) = 10) <|
    if v1 < (M.1 (M.2.2 v0 3) 1) then
      (some 1)
    else
      some 0
set_option maxHeartbeats 4000000 in
set_option maxRecDepth 100000 in
theorem b_X11_isHouse {E : rhE} {Γ : rhG} {M : rhM} : ∀ (v0 : Nat) (v1 : Int32), rhF E 1 2 yX11_isHouse cX11_isHouse (some .boolean) Γ (rhe0I Γ M) (f_X11_isHouse Γ M v0 v1) 0 [(0, rhR v0), (1, rhI v1)] [] Γ M := by
  intro v0 v1
  rw [f_X11_isHouse]
  refine rhF.iload_n (pc := 0) dX11_isHouse_0 1 rfl ?_
  refine rhF.if_lt (pc := 1) 19 dX11_isHouse_1 (by decide) (fun h1 => ?_) (fun h1 => ?_)
  · refine rhF.iconst (pc := 19) (v := 0) dX11_isHouse_19 (by decide) ?_
    exact rhF.zret (pc := 20) dX11_isHouse_20 rfl rfl rfl
  · refine rhF.iload_n (pc := 4) dX11_isHouse_4 1 rfl ?_
    refine rhF.aload_n (pc := 5) dX11_isHouse_5 0 rfl ?_
    refine rhF.ck (fun h2 => ?_)
    refine rhF.get (pc := 6) (rhR _) dX11_isHouse_6 fl_X11_23 h2 rfl ?_
    refine rhF.ck (fun h3 => ?_)
    refine rhF.get (pc := 9) (rhI _) dX11_isHouse_9 fl_X11_84 h3 rfl ?_
    refine rhF.icmp_ge (pc := 12) 19 dX11_isHouse_12 (by decide) (fun h4 => ?_) (fun h4 => ?_)
    · refine rhF.iconst (pc := 15) (v := 1) dX11_isHouse_15 (by decide) ?_
      refine rhF.goto (pc := 16) 20 dX11_isHouse_16 (by decide) ?_
      exact rhF.zret (pc := 20) dX11_isHouse_20 rfl rfl rfl
    · refine rhF.iconst (pc := 19) (v := 0) dX11_isHouse_19 (by decide) ?_
      exact rhF.zret (pc := 20) dX11_isHouse_20 rfl rfl rfl
theorem c_X11_isHouse (E : rhE) (Γ : rhG) (M : rhM) (v0 : Nat) (v1 : Int32) : ∀ a, f_X11_isHouse Γ M v0 v1 = some a → rhC E 1 yX11_isHouse cX11_isHouse 2 (some .boolean) [rhR v0, rhI v1] Γ M ((rhe0I Γ M) a) := rhF.met (by decide +kernel) (Nat.le_of_ble_eq_true rfl) (b_X11_isHouse v0 v1)
def f_X11_can (Γ : rhG) (M : rhM) (v0 : Nat) (v1 : Int32) (v2 : Int32) (v3 : Int32) : Option (Int32 × rhM) :=
  rhck (Γ.2.2.1 v0 = 12) <|
  (f_X11_isHouse Γ M v0 v1).bind fun r2 =>
  if r2 = 0 then
    (some (((-1), M)))
  else
    if v2 < 0 then
      (some (((-1), M)))
    else
      if 3 < v2 then
        (some (((-1), M)))
      else
        rhck (Γ.2.2.1 (M.2.2 v0 14) = 7) <|
        (f_X6_count Γ M (M.2.2 v0 14) (M.2.2 v0 3) v2 v3).bind fun r7 =>
        rhck (Γ.2.2.1 (r7.2.2 v0 14) = 7) <|
        (f_X6_railsOf Γ r7 (r7.2.2 v0 14) v1 v2).bind fun r9 =>
        some ((r9, r7))
set_option maxHeartbeats 4000000 in
set_option maxRecDepth 100000 in
theorem b_X11_can {E : rhE} {Γ : rhG} : ∀ (M : rhM) (v0 : Nat) (v1 : Int32) (v2 : Int32) (v3 : Int32), rhF E 71 4 yX11_can cX11_can (some .int) Γ (rhe1I Γ) (f_X11_can Γ M v0 v1 v2 v3) 0 [(0, rhR v0), (1, rhI v1), (2, rhI v2), (3, rhI v3)] [] Γ M := by
  intro M v0 v1 v2 v3
  rw [f_X11_can]
  refine rhF.aload_n (pc := 0) dX11_can_0 0 rfl ?_
  refine rhF.iload_n (pc := 1) dX11_can_1 1 rfl ?_
  refine rhF.ck (fun h1 => ?_)
  refine rhF.callV (pc := 2) (ci := 11) (embc := rhe0I _ _) [rhI _] dX11_can_2 ml_X11_125 mv_X11_isHouse ⟨_, rfl, rfl⟩ h1 (c_X11_isHouse _ _ _ _ _) (by decide) (by decide) rfl (Nat.le_of_ble_eq_true rfl) (fun r2 _ => ?_)
  refine rhF.if_eq (pc := 5) 17 dX11_can_5 (by decide) (fun h3 => ?_) (fun h3 => ?_)
  · refine rhF.iconst (pc := 17) (v := (-1)) dX11_can_17 (by decide) ?_
    exact rhF.zret (pc := 18) dX11_can_18 rfl rfl rfl
  · refine rhF.iload_n (pc := 8) dX11_can_8 2 rfl ?_
    refine rhF.if_lt (pc := 9) 17 dX11_can_9 (by decide) (fun h4 => ?_) (fun h4 => ?_)
    · refine rhF.iconst (pc := 17) (v := (-1)) dX11_can_17 (by decide) ?_
      exact rhF.zret (pc := 18) dX11_can_18 rfl rfl rfl
    · refine rhF.iload_n (pc := 12) dX11_can_12 2 rfl ?_
      refine rhF.iconst (pc := 13) (v := 3) dX11_can_13 (by decide) ?_
      refine rhF.icmp_le (pc := 14) 19 dX11_can_14 (by decide) (fun h5 => ?_) (fun h5 => ?_)
      · refine rhF.iconst (pc := 17) (v := (-1)) dX11_can_17 (by decide) ?_
        exact rhF.zret (pc := 18) dX11_can_18 rfl rfl rfl
      · refine rhF.aload_n (pc := 19) dX11_can_19 0 rfl ?_
        refine rhF.get (pc := 20) (rhR _) dX11_can_20 fl_X11_66 h1 rfl ?_
        refine rhF.aload_n (pc := 23) dX11_can_23 0 rfl ?_
        refine rhF.get (pc := 24) (rhR _) dX11_can_24 fl_X11_23 h1 rfl ?_
        refine rhF.iload_n (pc := 27) dX11_can_27 2 rfl ?_
        refine rhF.iload_n (pc := 28) dX11_can_28 3 rfl ?_
        refine rhF.ck (fun h6 => ?_)
        refine rhF.callV (pc := 29) (ci := 6) (embc := rhe1U _) [rhR _, rhI _, rhI _] dX11_can_29 ml_X11_291 mv_X6_count ⟨_, rfl, rfl⟩ h6 (c_X6_count _ _ _ _ _ _ _) (by decide) (by decide) rfl (Nat.le_of_ble_eq_true rfl) (fun r7 _ => ?_)
        refine rhF.aload_n (pc := 32) dX11_can_32 0 rfl ?_
        refine rhF.get (pc := 33) (rhR _) dX11_can_33 fl_X11_66 h1 rfl ?_
        refine rhF.iload_n (pc := 36) dX11_can_36 1 rfl ?_
        refine rhF.iload_n (pc := 37) dX11_can_37 2 rfl ?_
        refine rhF.ck (fun h8 => ?_)
        refine rhF.callV (pc := 38) (ci := 6) (embc := rhe0I _ _) [rhI _, rhI _] dX11_can_38 ml_X11_297 mv_X6_railsOf ⟨_, rfl, rfl⟩ h8 (c_X6_railsOf _ _ _ _ _ _) (by decide) (by decide) rfl (Nat.le_of_ble_eq_true rfl) (fun r9 _ => ?_)
        exact rhF.zret (pc := 41) dX11_can_41 rfl rfl rfl
theorem c_X11_can (E : rhE) (Γ : rhG) (M : rhM) (v0 : Nat) (v1 : Int32) (v2 : Int32) (v3 : Int32) : ∀ a, f_X11_can Γ M v0 v1 v2 v3 = some a → rhC E 71 yX11_can cX11_can 4 (some .int) [rhR v0, rhI v1, rhI v2, rhI v3] Γ M ((rhe1I Γ) a) := rhF.met (by decide +kernel) (Nat.le_of_ble_eq_true rfl) (b_X11_can M v0 v1 v2 v3)
def f_X11_end (Γ : rhG) (M : rhM) (v0 : Nat) (v1 : Int32) : Option (Int32 × rhM) :=
  if v1 < 0 then
    (some (((-1), M)))
  else
    rhck (Γ.2.2.1 v0 = 12) <|
    if (M.1 v0 1) < v1 then
      (some (((-1), M)))
    else
      let M4 := rhsi M v0 1 v1
      some ((v1, M4))
set_option maxHeartbeats 4000000 in
set_option maxRecDepth 100000 in
theorem b_X11_end {E : rhE} {Γ : rhG} : ∀ (M : rhM) (v0 : Nat) (v1 : Int32), rhF E 1 2 yX11_end cX11_end (some .int) Γ (rhe1I Γ) (f_X11_end Γ M v0 v1) 0 [(0, rhR v0), (1, rhI v1)] [] Γ M := by
  intro M v0 v1
  rw [f_X11_end]
  refine rhF.iload_n (pc := 0) dX11_end_0 1 rfl ?_
  refine rhF.if_lt (pc := 1) 12 dX11_end_1 (by decide) (fun h1 => ?_) (fun h1 => ?_)
  · refine rhF.iconst (pc := 12) (v := (-1)) dX11_end_12 (by decide) ?_
    exact rhF.zret (pc := 13) dX11_end_13 rfl rfl rfl
  · refine rhF.iload_n (pc := 4) dX11_end_4 1 rfl ?_
    refine rhF.aload_n (pc := 5) dX11_end_5 0 rfl ?_
    refine rhF.ck (fun h2 => ?_)
    refine rhF.get (pc := 6) (rhI _) dX11_end_6 fl_X11_73 h2 rfl ?_
    refine rhF.icmp_le (pc := 9) 14 dX11_end_9 (by decide) (fun h3 => ?_) (fun h3 => ?_)
    · refine rhF.iconst (pc := 12) (v := (-1)) dX11_end_12 (by decide) ?_
      exact rhF.zret (pc := 13) dX11_end_13 rfl rfl rfl
    · refine rhF.aload_n (pc := 14) dX11_end_14 0 rfl ?_
      refine rhF.iload_n (pc := 15) dX11_end_15 1 rfl ?_
      refine rhF.puti (pc := 16) dX11_end_16 fl_X11_73 h2 (fun q hq => by cases hq; exact Or.inl rfl) ⟨rfl, rfl⟩ (fun _ => rfl) ?_
      refine rhF.iload_n (pc := 19) dX11_end_19 1 rfl ?_
      exact rhF.zret (pc := 20) dX11_end_20 rfl rfl rfl
theorem c_X11_end (E : rhE) (Γ : rhG) (M : rhM) (v0 : Nat) (v1 : Int32) : ∀ a, f_X11_end Γ M v0 v1 = some a → rhC E 1 yX11_end cX11_end 2 (some .int) [rhR v0, rhI v1] Γ M ((rhe1I Γ) a) := rhF.met (by decide +kernel) (Nat.le_of_ble_eq_true rfl) (b_X11_end M v0 v1)
def f_X11_fault (Γ : rhG) (M : rhM) (v0 : Nat) (v1 : Int32) : Option (Int32) :=
  if v1 = 0 then
    (rhck (Γ.2.2.1 v0 = 12) <|
    rhck (Γ.2.2.1 (M.2.2 v0 2) = 5) <|
    some (M.1 (M.2.2 v0 2) 0))
  else
  if v1 = 1 then
    (rhck (Γ.2.2.1 v0 = 12) <|
    rhck (Γ.2.2.1 (M.2.2 v0 2) = 5) <|
    if (M.1 (M.2.2 v0 2) 0) = 0 then
      (some ((-1)))
    else
      some (M.1 (M.2.2 v0 2) 1))
  else
  some ((-1))
set_option maxHeartbeats 4000000 in
set_option maxRecDepth 100000 in
theorem b_X11_fault {E : rhE} {Γ : rhG} {M : rhM} : ∀ (v0 : Nat) (v1 : Int32), rhF E 1 2 yX11_fault cX11_fault (some .int) Γ (rhe0I Γ M) (f_X11_fault Γ M v0 v1) 0 [(0, rhR v0), (1, rhI v1)] [] Γ M := by
  intro v0 v1
  rw [f_X11_fault]
  refine rhF.iload_n (pc := 0) dX11_fault_0 1 rfl ?_
  refine rhF.ite (fun h1 => ?_) (fun h1 => ?_)
  · refine rhF.ls (pc := 1) 28 dX11_fault_1 (by decide) (by rw [h1] <;> rfl) (by decide) ?_
    refine rhF.aload_n (pc := 28) dX11_fault_28 0 rfl ?_
    refine rhF.ck (fun h2 => ?_)
    refine rhF.get (pc := 29) (rhR _) dX11_fault_29 fl_X11_16 h2 rfl ?_
    refine rhF.ck (fun h3 => ?_)
    refine rhF.get (pc := 32) (rhI _) dX11_fault_32 fl_X11_107 h3 rfl ?_
    exact rhF.zret (pc := 35) dX11_fault_35 rfl rfl rfl
  · skip
    refine rhF.ite (fun h4 => ?_) (fun h4 => ?_)
    · refine rhF.ls (pc := 1) 36 dX11_fault_1 (by decide) (by rw [h4] <;> rfl) (by decide) ?_
      refine rhF.aload_n (pc := 36) dX11_fault_36 0 rfl ?_
      refine rhF.ck (fun h5 => ?_)
      refine rhF.get (pc := 37) (rhR _) dX11_fault_37 fl_X11_16 h5 rfl ?_
      refine rhF.ck (fun h6 => ?_)
      refine rhF.get (pc := 40) (rhI _) dX11_fault_40 fl_X11_107 h6 rfl ?_
      refine rhF.if_ne (pc := 43) 50 dX11_fault_43 (by decide) (fun h7 => ?_) (fun h7 => ?_)
      · refine rhF.iconst (pc := 46) (v := (-1)) dX11_fault_46 (by decide) ?_
        refine rhF.goto (pc := 47) 57 dX11_fault_47 (by decide) ?_
        exact rhF.zret (pc := 57) dX11_fault_57 rfl rfl rfl
      · refine rhF.aload_n (pc := 50) dX11_fault_50 0 rfl ?_
        refine rhF.get (pc := 51) (rhR _) dX11_fault_51 fl_X11_16 h5 rfl ?_
        refine rhF.get (pc := 54) (rhI _) dX11_fault_54 fl_X11_110 h6 rfl ?_
        exact rhF.zret (pc := 57) dX11_fault_57 rfl rfl rfl
    · skip
      refine rhF.ls (pc := 1) 58 dX11_fault_1 (by decide) (rhlkd _ _ _ (List.forall_mem_cons.mpr ⟨rhne h1 (n := 0) (by decide), List.forall_mem_cons.mpr ⟨rhne h4 (n := 1) (by decide), fun _ h => absurd h List.not_mem_nil⟩⟩)) (by decide) ?_
      refine rhF.iconst (pc := 58) (v := (-1)) dX11_fault_58 (by decide) ?_
      exact rhF.zret (pc := 59) dX11_fault_59 rfl rfl rfl
theorem c_X11_fault (E : rhE) (Γ : rhG) (M : rhM) (v0 : Nat) (v1 : Int32) : ∀ a, f_X11_fault Γ M v0 v1 = some a → rhC E 1 yX11_fault cX11_fault 2 (some .int) [rhR v0, rhI v1] Γ M ((rhe0I Γ M) a) := rhF.met (by decide +kernel) (Nat.le_of_ble_eq_true rfl) (b_X11_fault v0 v1)
def f_X11_putBytes_3 (Γ : rhG) : Nat → rhM → Nat → Int32 → Int32 → Option (rhM)
  | 0, _, _, _, _ => none
  | n + 1, M, v0, v1, v2 =>
    if v2 < 0 then
      (some M)
    else
      rhck (Γ.2.2.1 v0 = 12) <|
      rhck (Γ.2.2.1 (M.2.2 v0 0) = 14) <|
      if (M.1 v0 1) < (Int32.ofNat (Γ.2.2.2 (M.2.2 v0 0))) then
        (rhck (0 ≤ (M.1 v0 1).toInt ∧ (M.1 v0 1).toInt < (Γ.2.2.2 (M.2.2 v0 0) : Nat)) <|
        let M6 := rhsi M (M.2.2 v0 0) (M.1 v0 1 : Int32).toNatClampNeg (vp_nar .byte ((rhus v1 v2).toInt8.toInt32))
        let M7 := rhsi M6 v0 1 ((M6.1 v0 1) + 1)
        let x8 : Int32 := v2 + (-8)
        f_X11_putBytes_3 Γ n M7 v0 v1 x8)
      else
        some M
def f_X11_putBytes (Γ : rhG) (M : rhM) (v0 : Nat) (v1 : Int32) : Option (rhM) :=
  f_X11_putBytes_3 Γ rhFU M v0 v1 24
set_option maxHeartbeats 4000000 in
set_option maxRecDepth 100000 in
theorem b_X11_putBytes_3 {E : rhE} {Γ : rhG} : ∀ (n : Nat) (M : rhM) (v0 : Nat) (v1 : Int32) (v2 : Int32), rhF E 1 3 yX11_putBytes cX11_putBytes none Γ (rhe1U Γ) (f_X11_putBytes_3 Γ n M v0 v1 v2) 3 [(0, rhR v0), (1, rhI v1), (2, rhI v2)] [] Γ M := by
  intro n
  induction n with
  | zero => intro M v0 v1 v2; rw [f_X11_putBytes_3]; exact rhF.nope
  | succ n ih =>
    intro M v0 v1 v2
    rw [f_X11_putBytes_3]
    refine rhF.iload_n (pc := 3) dX11_putBytes_3 2 rfl ?_
    refine rhF.if_lt (pc := 4) 48 dX11_putBytes_4 (by decide) (fun h1 => ?_) (fun h1 => ?_)
    · exact rhF.vret (pc := 48) dX11_putBytes_48 rfl rfl
    · refine rhF.aload_n (pc := 7) dX11_putBytes_7 0 rfl ?_
      refine rhF.ck (fun h2 => ?_)
      refine rhF.get (pc := 8) (rhI _) dX11_putBytes_8 fl_X11_73 h2 rfl ?_
      refine rhF.aload_n (pc := 11) dX11_putBytes_11 0 rfl ?_
      refine rhF.get (pc := 12) (rhR _) dX11_putBytes_12 fl_X11_9 h2 rfl ?_
      refine rhF.ck (fun h3 => ?_)
      refine rhF.alen14 (pc := 15) dX11_putBytes_15 h3 ?_
      refine rhF.icmp_ge (pc := 16) 48 dX11_putBytes_16 (by decide) (fun h4 => ?_) (fun h4 => ?_)
      · refine rhF.aload_n (pc := 19) dX11_putBytes_19 0 rfl ?_
        refine rhF.get (pc := 20) (rhR _) dX11_putBytes_20 fl_X11_9 h2 rfl ?_
        refine rhF.aload_n (pc := 23) dX11_putBytes_23 0 rfl ?_
        refine rhF.get (pc := 24) (rhI _) dX11_putBytes_24 fl_X11_73 h2 rfl ?_
        refine rhF.iload_n (pc := 27) dX11_putBytes_27 1 rfl ?_
        refine rhF.iload_n (pc := 28) dX11_putBytes_28 2 rfl ?_
        refine rhF.iushr (pc := 29) dX11_putBytes_29 ?_
        refine rhF.i2b (pc := 30) dX11_putBytes_30 ?_
        refine rhF.ck (fun h5 => ?_)
        refine rhF.bast (pc := 31) dX11_putBytes_31 h3 h5 ?_
        refine rhF.aload_n (pc := 32) dX11_putBytes_32 0 rfl ?_
        refine rhF.dupr (pc := 33) dX11_putBytes_33 ?_
        refine rhF.get (pc := 34) (rhI _) dX11_putBytes_34 fl_X11_73 h2 rfl ?_
        refine rhF.iconst (pc := 37) (v := 1) dX11_putBytes_37 (by decide) ?_
        refine rhF.iadd (pc := 38) dX11_putBytes_38 ?_
        refine rhF.puti (pc := 39) dX11_putBytes_39 fl_X11_73 h2 (fun q hq => by cases hq; exact Or.inl rfl) ⟨rfl, rfl⟩ (fun _ => rfl) ?_
        refine rhF.iinc (pc := 42) (L' := [(2, rhI _), (0, rhR _), (1, rhI _)]) dX11_putBytes_42 2 rfl rfl (by decide) rfl ?_
        refine rhF.goto (pc := 45) 3 dX11_putBytes_45 (by decide) ?_
        refine rhF.sub [1, 2, 0] rfl ?_
        exact ih _ _ _ _
      · exact rhF.vret (pc := 48) dX11_putBytes_48 rfl rfl
set_option maxHeartbeats 4000000 in
set_option maxRecDepth 100000 in
theorem b_X11_putBytes {E : rhE} {Γ : rhG} : ∀ (M : rhM) (v0 : Nat) (v1 : Int32), rhF E 1 3 yX11_putBytes cX11_putBytes none Γ (rhe1U Γ) (f_X11_putBytes Γ M v0 v1) 0 [(0, rhR v0), (1, rhI v1)] [] Γ M := by
  intro M v0 v1
  rw [f_X11_putBytes]
  refine rhF.bipush (pc := 0) (v := 24) dX11_putBytes_0 (by decide) ?_
  refine rhF.istore_n (pc := 2) (L' := [(2, rhI _), (0, rhR _), (1, rhI _)]) dX11_putBytes_2 (by decide) rfl ?_
  refine rhF.sub [1, 2, 0] rfl ?_
  exact (b_X11_putBytes_3 rhFU) _ _ _ _
theorem c_X11_putBytes (E : rhE) (Γ : rhG) (M : rhM) (v0 : Nat) (v1 : Int32) : ∀ a, f_X11_putBytes Γ M v0 v1 = some a → rhC E 1 yX11_putBytes cX11_putBytes 3 none [rhR v0, rhI v1] Γ M ((rhe1U Γ) a) := rhF.met (by decide +kernel) (Nat.le_of_ble_eq_true rfl) (b_X11_putBytes M v0 v1)
def f_X11_feed (Γ : rhG) (M : rhM) (v0 : Nat) (v1 : Int32) (v2 : Int32) (v3 : Int32) (v4 : Int32) (v5 : Int32) : Option (Int32 × rhM) :=
  rhck (Γ.2.2.1 v0 = 12) <|
  if 1600 < ((M.1 v0 1) + 20) then
    (some (((-1), M)))
  else
    (f_X11_putBytes Γ M v0 v1).bind fun r3 =>
    (f_X11_putBytes Γ r3 v0 v2).bind fun r4 =>
    (f_X11_putBytes Γ r4 v0 v3).bind fun r5 =>
    (f_X11_putBytes Γ r5 v0 v4).bind fun r6 =>
    (f_X11_putBytes Γ r6 v0 v5).bind fun r7 =>
    some ((r7.1 v0 1, r7))
set_option maxHeartbeats 4000000 in
set_option maxRecDepth 100000 in
theorem b_X11_feed {E : rhE} {Γ : rhG} : ∀ (M : rhM) (v0 : Nat) (v1 : Int32) (v2 : Int32) (v3 : Int32) (v4 : Int32) (v5 : Int32), rhF E 5 6 yX11_feed cX11_feed (some .int) Γ (rhe1I Γ) (f_X11_feed Γ M v0 v1 v2 v3 v4 v5) 0 [(0, rhR v0), (1, rhI v1), (2, rhI v2), (3, rhI v3), (4, rhI v4), (5, rhI v5)] [] Γ M := by
  intro M v0 v1 v2 v3 v4 v5
  rw [f_X11_feed]
  refine rhF.aload_n (pc := 0) dX11_feed_0 0 rfl ?_
  refine rhF.ck (fun h1 => ?_)
  refine rhF.get (pc := 1) (rhI _) dX11_feed_1 fl_X11_73 h1 rfl ?_
  refine rhF.bipush (pc := 4) (v := 20) dX11_feed_4 (by decide) ?_
  refine rhF.iadd (pc := 6) dX11_feed_6 ?_
  refine rhF.sipush (pc := 7) (v := 1600) dX11_feed_7 (by decide) ?_
  refine rhF.icmp_le (pc := 10) 15 dX11_feed_10 (by decide) (fun h2 => ?_) (fun h2 => ?_)
  · refine rhF.iconst (pc := 13) (v := (-1)) dX11_feed_13 (by decide) ?_
    exact rhF.zret (pc := 14) dX11_feed_14 rfl rfl rfl
  · refine rhF.aload_n (pc := 15) dX11_feed_15 0 rfl ?_
    refine rhF.iload_n (pc := 16) dX11_feed_16 1 rfl ?_
    refine rhF.callV (pc := 17) (ci := 11) (embc := rhe1U _) [rhI _] dX11_feed_17 ml_X11_77 mv_X11_putBytes ⟨_, rfl, rfl⟩ h1 (c_X11_putBytes _ _ _ _ _) (by decide) (by decide) rfl (Nat.le_of_ble_eq_true rfl) (fun r3 _ => ?_)
    refine rhF.aload_n (pc := 20) dX11_feed_20 0 rfl ?_
    refine rhF.iload_n (pc := 21) dX11_feed_21 2 rfl ?_
    refine rhF.callV (pc := 22) (ci := 11) (embc := rhe1U _) [rhI _] dX11_feed_22 ml_X11_77 mv_X11_putBytes ⟨_, rfl, rfl⟩ h1 (c_X11_putBytes _ _ _ _ _) (by decide) (by decide) rfl (Nat.le_of_ble_eq_true rfl) (fun r4 _ => ?_)
    refine rhF.aload_n (pc := 25) dX11_feed_25 0 rfl ?_
    refine rhF.iload_n (pc := 26) dX11_feed_26 3 rfl ?_
    refine rhF.callV (pc := 27) (ci := 11) (embc := rhe1U _) [rhI _] dX11_feed_27 ml_X11_77 mv_X11_putBytes ⟨_, rfl, rfl⟩ h1 (c_X11_putBytes _ _ _ _ _) (by decide) (by decide) rfl (Nat.le_of_ble_eq_true rfl) (fun r5 _ => ?_)
    refine rhF.aload_n (pc := 30) dX11_feed_30 0 rfl ?_
    refine rhF.iload (pc := 31) dX11_feed_31 4 rfl ?_
    refine rhF.callV (pc := 33) (ci := 11) (embc := rhe1U _) [rhI _] dX11_feed_33 ml_X11_77 mv_X11_putBytes ⟨_, rfl, rfl⟩ h1 (c_X11_putBytes _ _ _ _ _) (by decide) (by decide) rfl (Nat.le_of_ble_eq_true rfl) (fun r6 _ => ?_)
    refine rhF.aload_n (pc := 36) dX11_feed_36 0 rfl ?_
    refine rhF.iload (pc := 37) dX11_feed_37 5 rfl ?_
    refine rhF.callV (pc := 39) (ci := 11) (embc := rhe1U _) [rhI _] dX11_feed_39 ml_X11_77 mv_X11_putBytes ⟨_, rfl, rfl⟩ h1 (c_X11_putBytes _ _ _ _ _) (by decide) (by decide) rfl (Nat.le_of_ble_eq_true rfl) (fun r7 _ => ?_)
    refine rhF.aload_n (pc := 42) dX11_feed_42 0 rfl ?_
    refine rhF.get (pc := 43) (rhI _) dX11_feed_43 fl_X11_73 h1 rfl ?_
    exact rhF.zret (pc := 46) dX11_feed_46 rfl rfl rfl
theorem c_X11_feed (E : rhE) (Γ : rhG) (M : rhM) (v0 : Nat) (v1 : Int32) (v2 : Int32) (v3 : Int32) (v4 : Int32) (v5 : Int32) : ∀ a, f_X11_feed Γ M v0 v1 v2 v3 v4 v5 = some a → rhC E 5 yX11_feed cX11_feed 6 (some .int) [rhR v0, rhI v1, rhI v2, rhI v3, rhI v4, rhI v5] Γ M ((rhe1I Γ) a) := rhF.met (by decide +kernel) (Nat.le_of_ble_eq_true rfl) (b_X11_feed M v0 v1 v2 v3 v4 v5)
def f_X11_isSpent (Γ : rhG) (M : rhM) (v0 : Nat) : Option (Int32) :=
  rhck (Γ.2.2.1 v0 = 12) <|
  rhck (Γ.2.2.1 (M.2.2 v0 3) = 10) <|
  if 6 < (M.1 (M.2.2 v0 3) 1) then
    (some 1)
  else
    if 4 < (M.1 (M.2.2 v0 3) 0) then
      (some 1)
    else
      some 0
set_option maxHeartbeats 4000000 in
set_option maxRecDepth 100000 in
theorem b_X11_isSpent {E : rhE} {Γ : rhG} {M : rhM} : ∀ (v0 : Nat), rhF E 1 1 yX11_isSpent cX11_isSpent (some .boolean) Γ (rhe0I Γ M) (f_X11_isSpent Γ M v0) 0 [(0, rhR v0)] [] Γ M := by
  intro v0
  rw [f_X11_isSpent]
  refine rhF.aload_n (pc := 0) dX11_isSpent_0 0 rfl ?_
  refine rhF.ck (fun h1 => ?_)
  refine rhF.get (pc := 1) (rhR _) dX11_isSpent_1 fl_X11_23 h1 rfl ?_
  refine rhF.ck (fun h2 => ?_)
  refine rhF.get (pc := 4) (rhI _) dX11_isSpent_4 fl_X11_84 h2 rfl ?_
  refine rhF.bipush (pc := 7) (v := 6) dX11_isSpent_7 (by decide) ?_
  refine rhF.icmp_gt (pc := 9) 23 dX11_isSpent_9 (by decide) (fun h3 => ?_) (fun h3 => ?_)
  · refine rhF.iconst (pc := 23) (v := 1) dX11_isSpent_23 (by decide) ?_
    refine rhF.goto (pc := 24) 28 dX11_isSpent_24 (by decide) ?_
    exact rhF.zret (pc := 28) dX11_isSpent_28 rfl rfl rfl
  · refine rhF.aload_n (pc := 12) dX11_isSpent_12 0 rfl ?_
    refine rhF.get (pc := 13) (rhR _) dX11_isSpent_13 fl_X11_23 h1 rfl ?_
    refine rhF.get (pc := 16) (rhI _) dX11_isSpent_16 fl_X11_141 h2 rfl ?_
    refine rhF.iconst (pc := 19) (v := 4) dX11_isSpent_19 (by decide) ?_
    refine rhF.icmp_le (pc := 20) 27 dX11_isSpent_20 (by decide) (fun h4 => ?_) (fun h4 => ?_)
    · refine rhF.iconst (pc := 23) (v := 1) dX11_isSpent_23 (by decide) ?_
      refine rhF.goto (pc := 24) 28 dX11_isSpent_24 (by decide) ?_
      exact rhF.zret (pc := 28) dX11_isSpent_28 rfl rfl rfl
    · refine rhF.iconst (pc := 27) (v := 0) dX11_isSpent_27 (by decide) ?_
      exact rhF.zret (pc := 28) dX11_isSpent_28 rfl rfl rfl
theorem c_X11_isSpent (E : rhE) (Γ : rhG) (M : rhM) (v0 : Nat) : ∀ a, f_X11_isSpent Γ M v0 = some a → rhC E 1 yX11_isSpent cX11_isSpent 1 (some .boolean) [rhR v0] Γ M ((rhe0I Γ M) a) := rhF.met (by decide +kernel) (Nat.le_of_ble_eq_true rfl) (b_X11_isSpent v0)
def f_X11_lay (Γ : rhG) (M : rhM) (v0 : Nat) (v1 : Int32) : Option (Int32 × rhG × rhM) :=
  if v1 = ((-1)) then
    (some (((-1), Γ, M)))
  else
    rhck (Γ.2.2.1 v0 = 12) <|
    rhck (Γ.2.2.1 (M.2.2 v0 15) = 6) <|
    (f_X5_copyRow Γ M (M.2.2 v0 15) v1 (M.2.2 v0 9)).bind fun r4 =>
    rhck (r4.1.2.2.1 v0 = 12) <|
    rhck (r4.1.2.2.1 (r4.2.2.2 v0 9) = 4) <|
    some ((r4.2.1 (r4.2.2.2 v0 9) 1, r4.1, r4.2))
set_option maxHeartbeats 4000000 in
set_option maxRecDepth 100000 in
theorem b_X11_lay {E : rhE} {Γ0 : rhG} : ∀ (Γ : rhG) (M : rhM) (v0 : Nat) (v1 : Int32), rhF E 8 2 yX11_lay cX11_lay (some .int) Γ0 rhe2I (f_X11_lay Γ M v0 v1) 0 [(0, rhR v0), (1, rhI v1)] [] Γ M := by
  intro Γ M v0 v1
  rw [f_X11_lay]
  refine rhF.iload_n (pc := 0) dX11_lay_0 1 rfl ?_
  refine rhF.iconst (pc := 1) (v := (-1)) dX11_lay_1 (by decide) ?_
  refine rhF.icmp_ne (pc := 2) 7 dX11_lay_2 (by decide) (fun h1 => ?_) (fun h1 => ?_)
  · refine rhF.iconst (pc := 5) (v := (-1)) dX11_lay_5 (by decide) ?_
    exact rhF.zret (pc := 6) dX11_lay_6 rfl rfl rfl
  · refine rhF.aload_n (pc := 7) dX11_lay_7 0 rfl ?_
    refine rhF.ck (fun h2 => ?_)
    refine rhF.get (pc := 8) (rhR _) dX11_lay_8 fl_X11_228 h2 rfl ?_
    refine rhF.iload_n (pc := 11) dX11_lay_11 1 rfl ?_
    refine rhF.aload_n (pc := 12) dX11_lay_12 0 rfl ?_
    refine rhF.get (pc := 13) (rhR _) dX11_lay_13 fl_X11_52 h2 rfl ?_
    refine rhF.ck (fun h3 => ?_)
    refine rhF.callV (pc := 16) (ci := 5) (embc := rhe2U) [rhI _, rhR _] dX11_lay_16 ml_X11_277 mv_X5_copyRow ⟨_, rfl, rfl⟩ h3 (c_X5_copyRow _ _ _ _ _ _) (by decide) (by decide) rfl (Nat.le_of_ble_eq_true rfl) (fun r4 _ => ?_)
    refine rhF.aload_n (pc := 19) dX11_lay_19 0 rfl ?_
    refine rhF.ck (fun h5 => ?_)
    refine rhF.get (pc := 20) (rhR _) dX11_lay_20 fl_X11_52 h5 rfl ?_
    refine rhF.ck (fun h6 => ?_)
    refine rhF.get (pc := 23) (rhI _) dX11_lay_23 fl_X11_184 h6 rfl ?_
    exact rhF.zret (pc := 26) dX11_lay_26 rfl rfl rfl
theorem c_X11_lay (E : rhE) (Γ : rhG) (M : rhM) (v0 : Nat) (v1 : Int32) : ∀ a, f_X11_lay Γ M v0 v1 = some a → rhC E 8 yX11_lay cX11_lay 2 (some .int) [rhR v0, rhI v1] Γ M (rhe2I a) := rhF.met (by decide +kernel) (Nat.le_of_ble_eq_true rfl) (b_X11_lay (Γ0 := Γ) Γ M v0 v1)
def f_X11_readySearch_24 (Γ : rhG) (M : rhM) (v0 : Nat) : Option (rhG × rhM) :=
  let M4 := rhmn M (Γ.1 + 1)
  let G3 := rhgn Γ 6 0 12
  rhck (G3.2.2.1 v0 = 12) <|
  rhck (G3.2.2.1 ((Γ.1 + 1)) = 6) <|
  (f_X5_init G3 M4 ((Γ.1 + 1)) (M4.2.2 v0 3)).bind fun r7 =>
  rhck (r7.1.2.2.1 v0 = 12) <|
  let M9 := rhsr r7.2 v0 15 ((Γ.1 + 1))
  some (r7.1, M9)
def f_X11_readySearch (Γ : rhG) (M : rhM) (v0 : Nat) : Option (rhG × rhM) :=
  rhck (Γ.2.2.1 v0 = 12) <|
  if (M.2.2 v0 15) = 0 then
    (f_X11_readySearch_24 Γ M v0)
  else
    rhck (Γ.2.2.1 (M.2.2 v0 15) = 6) <|
    rhck (Γ.2.2.1 (M.2.2 v0 3) = 10) <|
    (f_X9_states Γ M (M.2.2 v0 3)).bind fun r12 =>
    if (M.1 (M.2.2 v0 15) 0) < r12 then
      (f_X11_readySearch_24 Γ M v0)
    else
      some (Γ, M)
set_option maxHeartbeats 4000000 in
set_option maxRecDepth 100000 in
theorem b_X11_readySearch_24 {E : rhE} {Γ0 : rhG} : ∀ (Γ : rhG) (M : rhM) (v0 : Nat), rhF E 7 1 yX11_readySearch cX11_readySearch none Γ0 rhe2U (f_X11_readySearch_24 Γ M v0) 24 [(0, rhR v0)] [] Γ M := by
  intro Γ M v0
  rw [f_X11_readySearch_24]
  refine rhF.aload_n (pc := 24) dX11_readySearch_24 0 rfl ?_
  refine rhF.new (pc := 25) (ci := 5) dX11_readySearch_25 nw_X11_233 ?_
  refine rhF.dupr (pc := 28) dX11_readySearch_28 ?_
  refine rhF.aload_n (pc := 29) dX11_readySearch_29 0 rfl ?_
  refine rhF.ck (fun h5 => ?_)
  refine rhF.get (pc := 30) (rhR _) dX11_readySearch_30 fl_X11_23 h5 rfl ?_
  refine rhF.ck (fun h6 => ?_)
  refine rhF.callI (pc := 33) (embc := rhe2U) [rhR _] dX11_readySearch_33 ml_X11_274 mi_X5_init (fun z => absurd (h6.symm.trans z) (by decide)) (c_X5_init _ _ _ _ _) (by decide) (by decide) rfl (Nat.le_of_ble_eq_true rfl) (fun r7 _ => ?_)
  refine rhF.ck (fun h8 => ?_)
  refine rhF.putr (pc := 36) dX11_readySearch_36 fl_X11_228 h8 (fun q hq => by cases hq; exact Or.inl rfl) (Or.inl ⟨_, rfl⟩) (fun _ => rfl) ?_
  exact rhF.vret (pc := 39) dX11_readySearch_39 rfl rfl
set_option maxHeartbeats 4000000 in
set_option maxRecDepth 100000 in
theorem b_X11_readySearch {E : rhE} {Γ0 : rhG} : ∀ (Γ : rhG) (M : rhM) (v0 : Nat), rhF E 7 1 yX11_readySearch cX11_readySearch none Γ0 rhe2U (f_X11_readySearch Γ M v0) 0 [(0, rhR v0)] [] Γ M := by
  intro Γ M v0
  rw [f_X11_readySearch]
  refine rhF.aload_n (pc := 0) dX11_readySearch_0 0 rfl ?_
  refine rhF.ck (fun h1 => ?_)
  refine rhF.get (pc := 1) (rhR _) dX11_readySearch_1 fl_X11_228 h1 rfl ?_
  refine rhF.ifnull (pc := 4) 24 dX11_readySearch_4 (by decide) (fun h2 => ?_) (fun h2 => ?_)
  · exact (b_X11_readySearch_24) _ _ _
  · refine rhF.aload_n (pc := 7) dX11_readySearch_7 0 rfl ?_
    refine rhF.get (pc := 8) (rhR _) dX11_readySearch_8 fl_X11_228 h1 rfl ?_
    refine rhF.ck (fun h10 => ?_)
    refine rhF.get (pc := 11) (rhI _) dX11_readySearch_11 fl_X11_268 h10 rfl ?_
    refine rhF.aload_n (pc := 14) dX11_readySearch_14 0 rfl ?_
    refine rhF.get (pc := 15) (rhR _) dX11_readySearch_15 fl_X11_23 h1 rfl ?_
    refine rhF.ck (fun h11 => ?_)
    refine rhF.callV (pc := 18) (ci := 9) (embc := rhe0I _ _) [] dX11_readySearch_18 ml_X11_271 mv_X9_states ⟨_, rfl, rfl⟩ h11 (c_X9_states _ _ _ _) (by decide) (by decide) rfl (Nat.le_of_ble_eq_true rfl) (fun r12 _ => ?_)
    refine rhF.icmp_ge (pc := 21) 39 dX11_readySearch_21 (by decide) (fun h13 => ?_) (fun h13 => ?_)
    · exact (b_X11_readySearch_24) _ _ _
    · exact rhF.vret (pc := 39) dX11_readySearch_39 rfl rfl
theorem c_X11_readySearch (E : rhE) (Γ : rhG) (M : rhM) (v0 : Nat) : ∀ a, f_X11_readySearch Γ M v0 = some a → rhC E 7 yX11_readySearch cX11_readySearch 1 none [rhR v0] Γ M (rhe2U a) := rhF.met (by decide +kernel) (Nat.le_of_ble_eq_true rfl) (b_X11_readySearch (Γ0 := Γ) Γ M v0)
def f_X11_fewest (Γ : rhG) (M : rhM) (v0 : Nat) : Option (Int32 × rhG × rhM) :=
  rhck (Γ.2.2.1 v0 = 12) <|
  rhck (Γ.2.2.1 (M.2.2 v0 9) = 4) <|
  (f_X3_clear Γ M (M.2.2 v0 9)).bind fun r3 =>
  (f_X11_isSpent Γ r3 v0).bind fun r4 =>
  if r4 = 0 then
    ((f_X11_readySearch Γ r3 v0).bind fun r6 =>
    rhck (r6.1.2.2.1 v0 = 12) <|
    rhck (r6.1.2.2.1 (r6.2.2.2 v0 15) = 6) <|
    (f_X5_seekRow r6.1 r6.2 (r6.2.2.2 v0 15) (r6.2.2.1 v0 10) (r6.2.1 v0 11)).bind fun r9 =>
    rhck (r6.1.2.2.1 (r9.2.2 v0 5) = 8) <|
    rhck (r6.1.2.2.1 (r9.2.2 v0 15) = 6) <|
    (f_X5_spread r6.1 r9 (r9.2.2 v0 15) (r9.2.2 v0 3) (r9.2.1 (r9.2.2 v0 5) 0) (1000000 : Int32)).bind fun r12 =>
    (f_X11_lay r6.1 r12.2 v0 r12.1).bind fun r13 =>
    some ((r13.1, r13.2.1, r13.2.2)))
  else
    some (((-2), Γ, r3))
set_option maxHeartbeats 4000000 in
set_option maxRecDepth 100000 in
theorem b_X11_fewest {E : rhE} {Γ0 : rhG} : ∀ (Γ : rhG) (M : rhM) (v0 : Nat), rhF E 11 1 yX11_fewest cX11_fewest (some .int) Γ0 rhe2I (f_X11_fewest Γ M v0) 0 [(0, rhR v0)] [] Γ M := by
  intro Γ M v0
  rw [f_X11_fewest]
  refine rhF.aload_n (pc := 0) dX11_fewest_0 0 rfl ?_
  refine rhF.ck (fun h1 => ?_)
  refine rhF.get (pc := 1) (rhR _) dX11_fewest_1 fl_X11_52 h1 rfl ?_
  refine rhF.ck (fun h2 => ?_)
  refine rhF.callV (pc := 4) (ci := 3) (embc := rhe1U _) [] dX11_fewest_4 ml_X11_95 mv_X3_clear ⟨_, rfl, rfl⟩ h2 (c_X3_clear _ _ _ _) (by decide) (by decide) rfl (Nat.le_of_ble_eq_true rfl) (fun r3 _ => ?_)
  refine rhF.aload_n (pc := 7) dX11_fewest_7 0 rfl ?_
  refine rhF.callV (pc := 8) (ci := 11) (embc := rhe0I _ _) [] dX11_fewest_8 ml_X11_221 mv_X11_isSpent ⟨_, rfl, rfl⟩ h1 (c_X11_isSpent _ _ _ _) (by decide) (by decide) rfl (Nat.le_of_ble_eq_true rfl) (fun r4 _ => ?_)
  refine rhF.if_eq (pc := 11) 17 dX11_fewest_11 (by decide) (fun h5 => ?_) (fun h5 => ?_)
  · refine rhF.aload_n (pc := 17) dX11_fewest_17 0 rfl ?_
    refine rhF.callV (pc := 18) (ci := 11) (embc := rhe2U) [] dX11_fewest_18 ml_X11_225 mv_X11_readySearch ⟨_, rfl, rfl⟩ h1 (c_X11_readySearch _ _ _ _) (by decide) (by decide) rfl (Nat.le_of_ble_eq_true rfl) (fun r6 _ => ?_)
    refine rhF.aload_n (pc := 21) dX11_fewest_21 0 rfl ?_
    refine rhF.ck (fun h7 => ?_)
    refine rhF.get (pc := 22) (rhR _) dX11_fewest_22 fl_X11_228 h7 rfl ?_
    refine rhF.aload_n (pc := 25) dX11_fewest_25 0 rfl ?_
    refine rhF.get (pc := 26) (rhJ _) dX11_fewest_26 fl_X11_98 h7 rfl ?_
    refine rhF.aload_n (pc := 29) dX11_fewest_29 0 rfl ?_
    refine rhF.get (pc := 30) (rhI _) dX11_fewest_30 fl_X11_101 h7 rfl ?_
    refine rhF.ck (fun h8 => ?_)
    refine rhF.callV (pc := 33) (ci := 5) (embc := rhe1U _) [rhJ _, rhI _] dX11_fewest_33 ml_X11_232 mv_X5_seekRow ⟨_, rfl, rfl⟩ h8 (c_X5_seekRow _ _ _ _ _ _) (by decide) (by decide) rfl (Nat.le_of_ble_eq_true rfl) (fun r9 _ => ?_)
    refine rhF.aload_n (pc := 36) dX11_fewest_36 0 rfl ?_
    refine rhF.aload_n (pc := 37) dX11_fewest_37 0 rfl ?_
    refine rhF.get (pc := 38) (rhR _) dX11_fewest_38 fl_X11_228 h7 rfl ?_
    refine rhF.aload_n (pc := 41) dX11_fewest_41 0 rfl ?_
    refine rhF.get (pc := 42) (rhR _) dX11_fewest_42 fl_X11_23 h7 rfl ?_
    refine rhF.aload_n (pc := 45) dX11_fewest_45 0 rfl ?_
    refine rhF.get (pc := 46) (rhR _) dX11_fewest_46 fl_X11_33 h7 rfl ?_
    refine rhF.ck (fun h10 => ?_)
    refine rhF.get (pc := 49) (rhJ _) dX11_fewest_49 fl_X11_207 h10 rfl ?_
    refine rhF.ldc (pc := 52) dX11_fewest_52 k_X11_238 ?_
    refine rhF.ck (fun h11 => ?_)
    refine rhF.callV (pc := 54) (ci := 5) (embc := rhe1I _) [rhR _, rhJ _, rhI _] dX11_fewest_54 ml_X11_239 mv_X5_spread ⟨_, rfl, rfl⟩ h11 (c_X5_spread _ _ _ _ _ _ _) (by decide) (by decide) rfl (Nat.le_of_ble_eq_true rfl) (fun r12 _ => ?_)
    refine rhF.callV (pc := 57) (ci := 11) (embc := rhe2I) [rhI _] dX11_fewest_57 ml_X11_243 mv_X11_lay ⟨_, rfl, rfl⟩ h7 (c_X11_lay _ _ _ _ _) (by decide) (by decide) rfl (Nat.le_of_ble_eq_true rfl) (fun r13 _ => ?_)
    exact rhF.zret (pc := 60) dX11_fewest_60 rfl rfl rfl
  · refine rhF.bipush (pc := 14) (v := (-2)) dX11_fewest_14 (by decide) ?_
    exact rhF.zret (pc := 16) dX11_fewest_16 rfl rfl rfl
theorem c_X11_fewest (E : rhE) (Γ : rhG) (M : rhM) (v0 : Nat) : ∀ a, f_X11_fewest Γ M v0 = some a → rhC E 11 yX11_fewest cX11_fewest 1 (some .int) [rhR v0] Γ M (rhe2I a) := rhF.met (by decide +kernel) (Nat.le_of_ble_eq_true rfl) (b_X11_fewest (Γ0 := Γ) Γ M v0)
def f_X11_fits (Γ : rhG) (M : rhM) (v0 : Nat) (v1 : Int32) (v2 : Int32) : Option (Int32 × rhM) :=
  if v1 < 0 then
    (some (((-1), M)))
  else
    if 3 < v1 then
      (some (((-1), M)))
    else
      rhck (Γ.2.2.1 v0 = 12) <|
      rhck (Γ.2.2.1 (M.2.2 v0 14) = 7) <|
      (f_X6_count Γ M (M.2.2 v0 14) (M.2.2 v0 3) v1 v2).bind fun r5 =>
      rhck (Γ.2.2.1 (r5.2.2 v0 14) = 7) <|
      rhck (Γ.2.2.1 (r5.2.2 (r5.2.2 v0 14) 13) = 15) <|
      rhck (0 ≤ (v1).toInt ∧ (v1).toInt < (Γ.2.2.2 (r5.2.2 (r5.2.2 v0 14) 13) : Nat)) <|
      some ((r5.1 (r5.2.2 (r5.2.2 v0 14) 13) v1.toNatClampNeg, r5))
set_option maxHeartbeats 4000000 in
set_option maxRecDepth 100000 in
theorem b_X11_fits {E : rhE} {Γ : rhG} : ∀ (M : rhM) (v0 : Nat) (v1 : Int32) (v2 : Int32), rhF E 71 3 yX11_fits cX11_fits (some .int) Γ (rhe1I Γ) (f_X11_fits Γ M v0 v1 v2) 0 [(0, rhR v0), (1, rhI v1), (2, rhI v2)] [] Γ M := by
  intro M v0 v1 v2
  rw [f_X11_fits]
  refine rhF.iload_n (pc := 0) dX11_fits_0 1 rfl ?_
  refine rhF.if_lt (pc := 1) 9 dX11_fits_1 (by decide) (fun h1 => ?_) (fun h1 => ?_)
  · refine rhF.iconst (pc := 9) (v := (-1)) dX11_fits_9 (by decide) ?_
    exact rhF.zret (pc := 10) dX11_fits_10 rfl rfl rfl
  · refine rhF.iload_n (pc := 4) dX11_fits_4 1 rfl ?_
    refine rhF.iconst (pc := 5) (v := 3) dX11_fits_5 (by decide) ?_
    refine rhF.icmp_le (pc := 6) 11 dX11_fits_6 (by decide) (fun h2 => ?_) (fun h2 => ?_)
    · refine rhF.iconst (pc := 9) (v := (-1)) dX11_fits_9 (by decide) ?_
      exact rhF.zret (pc := 10) dX11_fits_10 rfl rfl rfl
    · refine rhF.aload_n (pc := 11) dX11_fits_11 0 rfl ?_
      refine rhF.ck (fun h3 => ?_)
      refine rhF.get (pc := 12) (rhR _) dX11_fits_12 fl_X11_66 h3 rfl ?_
      refine rhF.aload_n (pc := 15) dX11_fits_15 0 rfl ?_
      refine rhF.get (pc := 16) (rhR _) dX11_fits_16 fl_X11_23 h3 rfl ?_
      refine rhF.iload_n (pc := 19) dX11_fits_19 1 rfl ?_
      refine rhF.iload_n (pc := 20) dX11_fits_20 2 rfl ?_
      refine rhF.ck (fun h4 => ?_)
      refine rhF.callV (pc := 21) (ci := 6) (embc := rhe1U _) [rhR _, rhI _, rhI _] dX11_fits_21 ml_X11_291 mv_X6_count ⟨_, rfl, rfl⟩ h4 (c_X6_count _ _ _ _ _ _ _) (by decide) (by decide) rfl (Nat.le_of_ble_eq_true rfl) (fun r5 _ => ?_)
      refine rhF.aload_n (pc := 24) dX11_fits_24 0 rfl ?_
      refine rhF.get (pc := 25) (rhR _) dX11_fits_25 fl_X11_66 h3 rfl ?_
      refine rhF.ck (fun h6 => ?_)
      refine rhF.get (pc := 28) (rhR _) dX11_fits_28 fl_X11_294 h6 rfl ?_
      refine rhF.iload_n (pc := 31) dX11_fits_31 1 rfl ?_
      refine rhF.ck (fun h7 => ?_)
      refine rhF.ck (fun h8 => ?_)
      refine rhF.iald (pc := 32) dX11_fits_32 h7 h8 ?_
      exact rhF.zret (pc := 33) dX11_fits_33 rfl rfl rfl
theorem c_X11_fits (E : rhE) (Γ : rhG) (M : rhM) (v0 : Nat) (v1 : Int32) (v2 : Int32) : ∀ a, f_X11_fits Γ M v0 v1 v2 = some a → rhC E 71 yX11_fits cX11_fits 3 (some .int) [rhR v0, rhI v1, rhI v2] Γ M ((rhe1I Γ) a) := rhF.met (by decide +kernel) (Nat.le_of_ble_eq_true rfl) (b_X11_fits M v0 v1 v2)
def f_X11_free (Γ : rhG) (M : rhM) (v0 : Nat) (v1 : Int32) : Option (Int32 × rhG × rhM) :=
  rhck (Γ.2.2.1 v0 = 12) <|
  rhck (Γ.2.2.1 (M.2.2 v0 9) = 4) <|
  (f_X3_clear Γ M (M.2.2 v0 9)).bind fun r3 =>
  (f_X11_isHouse Γ r3 v0 v1).bind fun r4 =>
  if r4 = 0 then
    (some (((-1), Γ, r3)))
  else
    (f_X11_isSpent Γ r3 v0).bind fun r6 =>
    if r6 = 0 then
      ((f_X11_readySearch Γ r3 v0).bind fun r8 =>
      rhck (r8.1.2.2.1 v0 = 12) <|
      rhck (r8.1.2.2.1 (r8.2.2.2 v0 15) = 6) <|
      (f_X5_seekAlone r8.1 r8.2 (r8.2.2.2 v0 15) v1).bind fun r11 =>
      rhck (r8.1.2.2.1 (r11.2.2 v0 5) = 8) <|
      rhck (r8.1.2.2.1 (r11.2.2 v0 15) = 6) <|
      (f_X5_spread r8.1 r11 (r11.2.2 v0 15) (r11.2.2 v0 3) (r11.2.1 (r11.2.2 v0 5) 0) (1000000 : Int32)).bind fun r14 =>
      (f_X11_lay r8.1 r14.2 v0 r14.1).bind fun r15 =>
      some ((r15.1, r15.2.1, r15.2.2)))
    else
      some (((-2), Γ, r3))
set_option maxHeartbeats 4000000 in
set_option maxRecDepth 100000 in
theorem b_X11_free {E : rhE} {Γ0 : rhG} : ∀ (Γ : rhG) (M : rhM) (v0 : Nat) (v1 : Int32), rhF E 11 2 yX11_free cX11_free (some .int) Γ0 rhe2I (f_X11_free Γ M v0 v1) 0 [(0, rhR v0), (1, rhI v1)] [] Γ M := by
  intro Γ M v0 v1
  rw [f_X11_free]
  refine rhF.aload_n (pc := 0) dX11_free_0 0 rfl ?_
  refine rhF.ck (fun h1 => ?_)
  refine rhF.get (pc := 1) (rhR _) dX11_free_1 fl_X11_52 h1 rfl ?_
  refine rhF.ck (fun h2 => ?_)
  refine rhF.callV (pc := 4) (ci := 3) (embc := rhe1U _) [] dX11_free_4 ml_X11_95 mv_X3_clear ⟨_, rfl, rfl⟩ h2 (c_X3_clear _ _ _ _) (by decide) (by decide) rfl (Nat.le_of_ble_eq_true rfl) (fun r3 _ => ?_)
  refine rhF.aload_n (pc := 7) dX11_free_7 0 rfl ?_
  refine rhF.iload_n (pc := 8) dX11_free_8 1 rfl ?_
  refine rhF.callV (pc := 9) (ci := 11) (embc := rhe0I _ _) [rhI _] dX11_free_9 ml_X11_125 mv_X11_isHouse ⟨_, rfl, rfl⟩ h1 (c_X11_isHouse _ _ _ _ _) (by decide) (by decide) rfl (Nat.le_of_ble_eq_true rfl) (fun r4 _ => ?_)
  refine rhF.if_ne (pc := 12) 17 dX11_free_12 (by decide) (fun h5 => ?_) (fun h5 => ?_)
  · refine rhF.iconst (pc := 15) (v := (-1)) dX11_free_15 (by decide) ?_
    exact rhF.zret (pc := 16) dX11_free_16 rfl rfl rfl
  · refine rhF.aload_n (pc := 17) dX11_free_17 0 rfl ?_
    refine rhF.callV (pc := 18) (ci := 11) (embc := rhe0I _ _) [] dX11_free_18 ml_X11_221 mv_X11_isSpent ⟨_, rfl, rfl⟩ h1 (c_X11_isSpent _ _ _ _) (by decide) (by decide) rfl (Nat.le_of_ble_eq_true rfl) (fun r6 _ => ?_)
    refine rhF.if_eq (pc := 21) 27 dX11_free_21 (by decide) (fun h7 => ?_) (fun h7 => ?_)
    · refine rhF.aload_n (pc := 27) dX11_free_27 0 rfl ?_
      refine rhF.callV (pc := 28) (ci := 11) (embc := rhe2U) [] dX11_free_28 ml_X11_225 mv_X11_readySearch ⟨_, rfl, rfl⟩ h1 (c_X11_readySearch _ _ _ _) (by decide) (by decide) rfl (Nat.le_of_ble_eq_true rfl) (fun r8 _ => ?_)
      refine rhF.aload_n (pc := 31) dX11_free_31 0 rfl ?_
      refine rhF.ck (fun h9 => ?_)
      refine rhF.get (pc := 32) (rhR _) dX11_free_32 fl_X11_228 h9 rfl ?_
      refine rhF.iload_n (pc := 35) dX11_free_35 1 rfl ?_
      refine rhF.ck (fun h10 => ?_)
      refine rhF.callV (pc := 36) (ci := 5) (embc := rhe1U _) [rhI _] dX11_free_36 ml_X11_259 mv_X5_seekAlone ⟨_, rfl, rfl⟩ h10 (c_X5_seekAlone _ _ _ _ _) (by decide) (by decide) rfl (Nat.le_of_ble_eq_true rfl) (fun r11 _ => ?_)
      refine rhF.aload_n (pc := 39) dX11_free_39 0 rfl ?_
      refine rhF.aload_n (pc := 40) dX11_free_40 0 rfl ?_
      refine rhF.get (pc := 41) (rhR _) dX11_free_41 fl_X11_228 h9 rfl ?_
      refine rhF.aload_n (pc := 44) dX11_free_44 0 rfl ?_
      refine rhF.get (pc := 45) (rhR _) dX11_free_45 fl_X11_23 h9 rfl ?_
      refine rhF.aload_n (pc := 48) dX11_free_48 0 rfl ?_
      refine rhF.get (pc := 49) (rhR _) dX11_free_49 fl_X11_33 h9 rfl ?_
      refine rhF.ck (fun h12 => ?_)
      refine rhF.get (pc := 52) (rhJ _) dX11_free_52 fl_X11_207 h12 rfl ?_
      refine rhF.ldc (pc := 55) dX11_free_55 k_X11_238 ?_
      refine rhF.ck (fun h13 => ?_)
      refine rhF.callV (pc := 57) (ci := 5) (embc := rhe1I _) [rhR _, rhJ _, rhI _] dX11_free_57 ml_X11_239 mv_X5_spread ⟨_, rfl, rfl⟩ h13 (c_X5_spread _ _ _ _ _ _ _) (by decide) (by decide) rfl (Nat.le_of_ble_eq_true rfl) (fun r14 _ => ?_)
      refine rhF.callV (pc := 60) (ci := 11) (embc := rhe2I) [rhI _] dX11_free_60 ml_X11_243 mv_X11_lay ⟨_, rfl, rfl⟩ h9 (c_X11_lay _ _ _ _ _) (by decide) (by decide) rfl (Nat.le_of_ble_eq_true rfl) (fun r15 _ => ?_)
      exact rhF.zret (pc := 63) dX11_free_63 rfl rfl rfl
    · refine rhF.bipush (pc := 24) (v := (-2)) dX11_free_24 (by decide) ?_
      exact rhF.zret (pc := 26) dX11_free_26 rfl rfl rfl
theorem c_X11_free (E : rhE) (Γ : rhG) (M : rhM) (v0 : Nat) (v1 : Int32) : ∀ a, f_X11_free Γ M v0 v1 = some a → rhC E 11 yX11_free cX11_free 2 (some .int) [rhR v0, rhI v1] Γ M (rhe2I a) := rhF.met (by decide +kernel) (Nat.le_of_ble_eq_true rfl) (b_X11_free (Γ0 := Γ) Γ M v0 v1)
def f_X11_isInGoal_2 (Γ : rhG) (M : rhM) : Nat → Nat → Int32 → Int32 → Option (Int32)
  | 0, _, _, _ => none
  | n + 1, v0, v1, v2 =>
    rhck (Γ.2.2.1 v0 = 12) <|
    if v2 < (M.1 v0 11) then
      ((f_X7_digitOf Γ M (M.2.1 v0 10) v2).bind fun r3 =>
      if r3 = v1 then
        (some 1)
      else
        let x5 : Int32 := v2 + 1
        f_X11_isInGoal_2 Γ M n v0 v1 x5)
    else
      some 0
def f_X11_isInGoal (Γ : rhG) (M : rhM) (v0 : Nat) (v1 : Int32) : Option (Int32) :=
  f_X11_isInGoal_2 Γ M rhFU v0 v1 0
set_option maxHeartbeats 4000000 in
set_option maxRecDepth 100000 in
theorem b_X11_isInGoal_2 {E : rhE} {Γ : rhG} {M : rhM} : ∀ (n : Nat) (v0 : Nat) (v1 : Int32) (v2 : Int32), rhF E 5 3 yX11_isInGoal cX11_isInGoal (some .boolean) Γ (rhe0I Γ M) (f_X11_isInGoal_2 Γ M n v0 v1 v2) 2 [(0, rhR v0), (1, rhI v1), (2, rhI v2)] [] Γ M := by
  intro n
  induction n with
  | zero => intro v0 v1 v2; rw [f_X11_isInGoal_2]; exact rhF.nope
  | succ n ih =>
    intro v0 v1 v2
    rw [f_X11_isInGoal_2]
    refine rhF.iload_n (pc := 2) dX11_isInGoal_2 2 rfl ?_
    refine rhF.aload_n (pc := 3) dX11_isInGoal_3 0 rfl ?_
    refine rhF.ck (fun h1 => ?_)
    refine rhF.get (pc := 4) (rhI _) dX11_isInGoal_4 fl_X11_101 h1 rfl ?_
    refine rhF.icmp_ge (pc := 7) 30 dX11_isInGoal_7 (by decide) (fun h2 => ?_) (fun h2 => ?_)
    · refine rhF.aload_n (pc := 10) dX11_isInGoal_10 0 rfl ?_
      refine rhF.get (pc := 11) (rhJ _) dX11_isInGoal_11 fl_X11_98 h1 rfl ?_
      refine rhF.iload_n (pc := 14) dX11_isInGoal_14 2 rfl ?_
      refine rhF.callS (pc := 15) (embc := rhe0I _ _) [rhJ _, rhI _] dX11_isInGoal_15 ml_X11_217 ms_X7_digitOf (c_X7_digitOf _ _ _ _ _) (by decide) (by decide) rfl (Nat.le_of_ble_eq_true rfl) (fun r3 _ => ?_)
      refine rhF.iload_n (pc := 18) dX11_isInGoal_18 1 rfl ?_
      refine rhF.icmp_ne (pc := 19) 24 dX11_isInGoal_19 (by decide) (fun h4 => ?_) (fun h4 => ?_)
      · refine rhF.iconst (pc := 22) (v := 1) dX11_isInGoal_22 (by decide) ?_
        exact rhF.zret (pc := 23) dX11_isInGoal_23 rfl rfl rfl
      · refine rhF.iinc (pc := 24) (L' := [(2, rhI _), (0, rhR _), (1, rhI _)]) dX11_isInGoal_24 2 rfl rfl (by decide) rfl ?_
        refine rhF.goto (pc := 27) 2 dX11_isInGoal_27 (by decide) ?_
        refine rhF.sub [1, 2, 0] rfl ?_
        exact ih _ _ _
    · refine rhF.iconst (pc := 30) (v := 0) dX11_isInGoal_30 (by decide) ?_
      exact rhF.zret (pc := 31) dX11_isInGoal_31 rfl rfl rfl
set_option maxHeartbeats 4000000 in
set_option maxRecDepth 100000 in
theorem b_X11_isInGoal {E : rhE} {Γ : rhG} {M : rhM} : ∀ (v0 : Nat) (v1 : Int32), rhF E 5 3 yX11_isInGoal cX11_isInGoal (some .boolean) Γ (rhe0I Γ M) (f_X11_isInGoal Γ M v0 v1) 0 [(0, rhR v0), (1, rhI v1)] [] Γ M := by
  intro v0 v1
  rw [f_X11_isInGoal]
  refine rhF.iconst (pc := 0) (v := 0) dX11_isInGoal_0 (by decide) ?_
  refine rhF.istore_n (pc := 1) (L' := [(2, rhI _), (0, rhR _), (1, rhI _)]) dX11_isInGoal_1 (by decide) rfl ?_
  refine rhF.sub [1, 2, 0] rfl ?_
  exact (b_X11_isInGoal_2 rhFU) _ _ _
theorem c_X11_isInGoal (E : rhE) (Γ : rhG) (M : rhM) (v0 : Nat) (v1 : Int32) : ∀ a, f_X11_isInGoal Γ M v0 v1 = some a → rhC E 5 yX11_isInGoal cX11_isInGoal 3 (some .boolean) [rhR v0, rhI v1] Γ M ((rhe0I Γ M) a) := rhF.met (by decide +kernel) (Nat.le_of_ble_eq_true rfl) (b_X11_isInGoal v0 v1)
def f_X11_goal (Γ : rhG) (M : rhM) (v0 : Nat) (v1 : Int32) : Option (Int32 × rhM) :=
  rhck (Γ.2.2.1 v0 = 12) <|
  (f_X11_isHouse Γ M v0 v1).bind fun r2 =>
  if r2 = 0 then
    (some (((-1), M)))
  else
    (f_X11_isInGoal Γ M v0 v1).bind fun r4 =>
    if r4 = 0 then
      (if (M.1 v0 11) < 8 then
        (let M7 := rhsl M v0 10 ((M.2.1 v0 10) ||| (rhsh (Int32.toInt64 v1) (4 * (M.1 v0 11))))
        let M8 := rhsi M7 v0 11 ((M.1 v0 11) + 1)
        some ((M8.1 v0 11, M8)))
      else
        some (((-1), M)))
    else
      some (((-1), M))
set_option maxHeartbeats 4000000 in
set_option maxRecDepth 100000 in
theorem b_X11_goal {E : rhE} {Γ : rhG} : ∀ (M : rhM) (v0 : Nat) (v1 : Int32), rhF E 6 2 yX11_goal cX11_goal (some .int) Γ (rhe1I Γ) (f_X11_goal Γ M v0 v1) 0 [(0, rhR v0), (1, rhI v1)] [] Γ M := by
  intro M v0 v1
  rw [f_X11_goal]
  refine rhF.aload_n (pc := 0) dX11_goal_0 0 rfl ?_
  refine rhF.iload_n (pc := 1) dX11_goal_1 1 rfl ?_
  refine rhF.ck (fun h1 => ?_)
  refine rhF.callV (pc := 2) (ci := 11) (embc := rhe0I _ _) [rhI _] dX11_goal_2 ml_X11_125 mv_X11_isHouse ⟨_, rfl, rfl⟩ h1 (c_X11_isHouse _ _ _ _ _) (by decide) (by decide) rfl (Nat.le_of_ble_eq_true rfl) (fun r2 _ => ?_)
  refine rhF.if_eq (pc := 5) 25 dX11_goal_5 (by decide) (fun h3 => ?_) (fun h3 => ?_)
  · refine rhF.iconst (pc := 25) (v := (-1)) dX11_goal_25 (by decide) ?_
    exact rhF.zret (pc := 26) dX11_goal_26 rfl rfl rfl
  · refine rhF.aload_n (pc := 8) dX11_goal_8 0 rfl ?_
    refine rhF.iload_n (pc := 9) dX11_goal_9 1 rfl ?_
    refine rhF.callV (pc := 10) (ci := 11) (embc := rhe0I _ _) [rhI _] dX11_goal_10 ml_X11_214 mv_X11_isInGoal ⟨_, rfl, rfl⟩ h1 (c_X11_isInGoal _ _ _ _ _) (by decide) (by decide) rfl (Nat.le_of_ble_eq_true rfl) (fun r4 _ => ?_)
    refine rhF.if_ne (pc := 13) 25 dX11_goal_13 (by decide) (fun h5 => ?_) (fun h5 => ?_)
    · refine rhF.aload_n (pc := 16) dX11_goal_16 0 rfl ?_
      refine rhF.get (pc := 17) (rhI _) dX11_goal_17 fl_X11_101 h1 rfl ?_
      refine rhF.bipush (pc := 20) (v := 8) dX11_goal_20 (by decide) ?_
      refine rhF.icmp_lt (pc := 22) 27 dX11_goal_22 (by decide) (fun h6 => ?_) (fun h6 => ?_)
      · refine rhF.aload_n (pc := 27) dX11_goal_27 0 rfl ?_
        refine rhF.dupr (pc := 28) dX11_goal_28 ?_
        refine rhF.get (pc := 29) (rhJ _) dX11_goal_29 fl_X11_98 h1 rfl ?_
        refine rhF.iload_n (pc := 32) dX11_goal_32 1 rfl ?_
        refine rhF.i2l (pc := 33) dX11_goal_33 ?_
        refine rhF.iconst (pc := 34) (v := 4) dX11_goal_34 (by decide) ?_
        refine rhF.aload_n (pc := 35) dX11_goal_35 0 rfl ?_
        refine rhF.get (pc := 36) (rhI _) dX11_goal_36 fl_X11_101 h1 rfl ?_
        refine rhF.imul (pc := 39) dX11_goal_39 ?_
        refine rhF.lshl (pc := 40) dX11_goal_40 ?_
        refine rhF.lor (pc := 41) dX11_goal_41 ?_
        refine rhF.putl (pc := 42) dX11_goal_42 fl_X11_98 h1 (fun q hq => by cases hq; exact Or.inl rfl) ⟨rfl, rfl⟩ (fun _ => rfl) ?_
        refine rhF.aload_n (pc := 45) dX11_goal_45 0 rfl ?_
        refine rhF.dupr (pc := 46) dX11_goal_46 ?_
        refine rhF.get (pc := 47) (rhI _) dX11_goal_47 fl_X11_101 h1 rfl ?_
        refine rhF.iconst (pc := 50) (v := 1) dX11_goal_50 (by decide) ?_
        refine rhF.iadd (pc := 51) dX11_goal_51 ?_
        refine rhF.puti (pc := 52) dX11_goal_52 fl_X11_101 h1 (fun q hq => by cases hq; exact Or.inl rfl) ⟨rfl, rfl⟩ (fun _ => rfl) ?_
        refine rhF.aload_n (pc := 55) dX11_goal_55 0 rfl ?_
        refine rhF.get (pc := 56) (rhI _) dX11_goal_56 fl_X11_101 h1 rfl ?_
        exact rhF.zret (pc := 59) dX11_goal_59 rfl rfl rfl
      · refine rhF.iconst (pc := 25) (v := (-1)) dX11_goal_25 (by decide) ?_
        exact rhF.zret (pc := 26) dX11_goal_26 rfl rfl rfl
    · refine rhF.iconst (pc := 25) (v := (-1)) dX11_goal_25 (by decide) ?_
      exact rhF.zret (pc := 26) dX11_goal_26 rfl rfl rfl
theorem c_X11_goal (E : rhE) (Γ : rhG) (M : rhM) (v0 : Nat) (v1 : Int32) : ∀ a, f_X11_goal Γ M v0 v1 = some a → rhC E 6 yX11_goal cX11_goal 2 (some .int) [rhR v0, rhI v1] Γ M ((rhe1I Γ) a) := rhF.met (by decide +kernel) (Nat.le_of_ble_eq_true rfl) (b_X11_goal M v0 v1)
def f_X11_hush (Γ : rhG) (M : rhM) (v0 : Nat) : Option (Int32 × rhM) :=
  rhck (Γ.2.2.1 v0 = 12) <|
  rhck (Γ.2.2.1 (M.2.2 v0 8) = 4) <|
  let x3 := M.1 (M.2.2 v0 8) 1
  (f_X3_clear Γ M (M.2.2 v0 8)).bind fun r4 =>
  some ((x3, r4))
set_option maxHeartbeats 4000000 in
set_option maxRecDepth 100000 in
theorem b_X11_hush {E : rhE} {Γ : rhG} : ∀ (M : rhM) (v0 : Nat), rhF E 5 2 yX11_hush cX11_hush (some .int) Γ (rhe1I Γ) (f_X11_hush Γ M v0) 0 [(0, rhR v0)] [] Γ M := by
  intro M v0
  rw [f_X11_hush]
  refine rhF.aload_n (pc := 0) dX11_hush_0 0 rfl ?_
  refine rhF.ck (fun h1 => ?_)
  refine rhF.get (pc := 1) (rhR _) dX11_hush_1 fl_X11_49 h1 rfl ?_
  refine rhF.ck (fun h2 => ?_)
  refine rhF.get (pc := 4) (rhI _) dX11_hush_4 fl_X11_184 h2 rfl ?_
  refine rhF.istore_n (pc := 7) (L' := [(1, rhI _), (0, rhR _)]) dX11_hush_7 (by decide) rfl ?_
  refine rhF.aload_n (pc := 8) dX11_hush_8 1 rfl ?_
  refine rhF.get (pc := 9) (rhR _) dX11_hush_9 fl_X11_49 h1 rfl ?_
  refine rhF.callV (pc := 12) (ci := 3) (embc := rhe1U _) [] dX11_hush_12 ml_X11_95 mv_X3_clear ⟨_, rfl, rfl⟩ h2 (c_X3_clear _ _ _ _) (by decide) (by decide) rfl (Nat.le_of_ble_eq_true rfl) (fun r4 _ => ?_)
  refine rhF.iload_n (pc := 15) dX11_hush_15 0 rfl ?_
  exact rhF.zret (pc := 16) dX11_hush_16 rfl rfl rfl
theorem c_X11_hush (E : rhE) (Γ : rhG) (M : rhM) (v0 : Nat) : ∀ a, f_X11_hush Γ M v0 = some a → rhC E 5 yX11_hush cX11_hush 2 (some .int) [rhR v0] Γ M ((rhe1I Γ) a) := rhF.met (by decide +kernel) (Nat.le_of_ble_eq_true rfl) (b_X11_hush M v0)
def f_X11_image (Γ : rhG) (M : rhM) (v0 : Nat) (v1 : Int32) : Option (Int32 × rhG × rhM) :=
  if v1 < 0 then
    (some (((-1), Γ, M)))
  else
    if v1 < 3 then
      (rhck (Γ.2.2.1 v0 = 12) <|
      rhck (Γ.2.2.1 (M.2.2 v0 5) = 8) <|
      rhck (Γ.2.2.1 (M.2.2 v0 12) = 16) <|
      rhck (0 ≤ (v1).toInt ∧ (v1).toInt < (Γ.2.2.2 (M.2.2 v0 12) : Nat)) <|
      let M7 := rhsl M (M.2.2 v0 12) (v1 : Int32).toNatClampNeg (M.2.1 (M.2.2 v0 5) 0)
      rhck (Γ.2.2.1 (M.2.2 v0 13) = 18) <|
      rhck (0 ≤ (v1).toInt ∧ (v1).toInt < (Γ.2.2.2 (M.2.2 v0 13) : Nat)) <|
      rhck (Γ.2.2.1 (M.2.2 (M.2.2 v0 13) v1.toNatClampNeg) = 4) <|
      (f_X3_copy Γ M7 (M.2.2 (M.2.2 v0 13) v1.toNatClampNeg) (M.2.2 v0 7)).bind fun r11 =>
      rhck (r11.1.2.2.1 v0 = 12) <|
      rhck (r11.1.2.2.1 (r11.2.2.2 v0 7) = 4) <|
      some ((r11.2.1 (r11.2.2.2 v0 7) 1, r11.1, r11.2)))
    else
      some (((-1), Γ, M))
set_option maxHeartbeats 4000000 in
set_option maxRecDepth 100000 in
theorem b_X11_image {E : rhE} {Γ0 : rhG} : ∀ (Γ : rhG) (M : rhM) (v0 : Nat) (v1 : Int32), rhF E 7 2 yX11_image cX11_image (some .int) Γ0 rhe2I (f_X11_image Γ M v0 v1) 0 [(0, rhR v0), (1, rhI v1)] [] Γ M := by
  intro Γ M v0 v1
  rw [f_X11_image]
  refine rhF.iload_n (pc := 0) dX11_image_0 1 rfl ?_
  refine rhF.if_lt (pc := 1) 9 dX11_image_1 (by decide) (fun h1 => ?_) (fun h1 => ?_)
  · refine rhF.iconst (pc := 9) (v := (-1)) dX11_image_9 (by decide) ?_
    exact rhF.zret (pc := 10) dX11_image_10 rfl rfl rfl
  · refine rhF.iload_n (pc := 4) dX11_image_4 1 rfl ?_
    refine rhF.iconst (pc := 5) (v := 3) dX11_image_5 (by decide) ?_
    refine rhF.icmp_lt (pc := 6) 11 dX11_image_6 (by decide) (fun h2 => ?_) (fun h2 => ?_)
    · refine rhF.aload_n (pc := 11) dX11_image_11 0 rfl ?_
      refine rhF.ck (fun h3 => ?_)
      refine rhF.get (pc := 12) (rhR _) dX11_image_12 fl_X11_55 h3 rfl ?_
      refine rhF.iload_n (pc := 15) dX11_image_15 1 rfl ?_
      refine rhF.aload_n (pc := 16) dX11_image_16 0 rfl ?_
      refine rhF.get (pc := 17) (rhR _) dX11_image_17 fl_X11_33 h3 rfl ?_
      refine rhF.ck (fun h4 => ?_)
      refine rhF.get (pc := 20) (rhJ _) dX11_image_20 fl_X11_207 h4 rfl ?_
      refine rhF.ck (fun h5 => ?_)
      refine rhF.ck (fun h6 => ?_)
      refine rhF.last (pc := 23) dX11_image_23 h5 h6 ?_
      refine rhF.aload_n (pc := 24) dX11_image_24 0 rfl ?_
      refine rhF.get (pc := 25) (rhR _) dX11_image_25 fl_X11_59 h3 rfl ?_
      refine rhF.iload_n (pc := 28) dX11_image_28 1 rfl ?_
      refine rhF.ck (fun h8 => ?_)
      refine rhF.ck (fun h9 => ?_)
      refine rhF.aldP (pc := 29) dX11_image_29 h8 h9 ?_
      refine rhF.aload_n (pc := 30) dX11_image_30 0 rfl ?_
      refine rhF.get (pc := 31) (rhR _) dX11_image_31 fl_X11_45 h3 rfl ?_
      refine rhF.ck (fun h10 => ?_)
      refine rhF.callV (pc := 34) (ci := 3) (embc := rhe2U) [rhR _] dX11_image_34 ml_X11_300 mv_X3_copy ⟨_, rfl, rfl⟩ h10 (c_X3_copy _ _ _ _ _) (by decide) (by decide) rfl (Nat.le_of_ble_eq_true rfl) (fun r11 _ => ?_)
      refine rhF.aload_n (pc := 37) dX11_image_37 0 rfl ?_
      refine rhF.ck (fun h12 => ?_)
      refine rhF.get (pc := 38) (rhR _) dX11_image_38 fl_X11_45 h12 rfl ?_
      refine rhF.ck (fun h13 => ?_)
      refine rhF.get (pc := 41) (rhI _) dX11_image_41 fl_X11_184 h13 rfl ?_
      exact rhF.zret (pc := 44) dX11_image_44 rfl rfl rfl
    · refine rhF.iconst (pc := 9) (v := (-1)) dX11_image_9 (by decide) ?_
      exact rhF.zret (pc := 10) dX11_image_10 rfl rfl rfl
theorem c_X11_image (E : rhE) (Γ : rhG) (M : rhM) (v0 : Nat) (v1 : Int32) : ∀ a, f_X11_image Γ M v0 v1 = some a → rhC E 7 yX11_image cX11_image 2 (some .int) [rhR v0, rhI v1] Γ M (rhe2I a) := rhF.met (by decide +kernel) (Nat.le_of_ble_eq_true rfl) (b_X11_image (Γ0 := Γ) Γ M v0 v1)
def f_X11_init_136 (k163 : rhG → rhM → Nat → Option (rhG × rhM)) : Nat → rhG → rhM → Nat → Int32 → Option (rhG × rhM)
  | 0, _, _, _, _ => none
  | n + 1, Γ, M, v0, v1 =>
    if v1 < 3 then
      (rhck (Γ.2.2.1 v0 = 12) <|
      let M74 := rhmn M (Γ.1 + 1)
      let G73 := rhgn Γ 4 0 3
      rhck (G73.2.2.1 ((Γ.1 + 1)) = 4) <|
      (f_X3_init G73 M74 ((Γ.1 + 1)) (300 : Int32)).bind fun r76 =>
      rhck (r76.1.2.2.1 (M.2.2 v0 13) = 18) <|
      rhck (0 ≤ (v1).toInt ∧ (v1).toInt < (r76.1.2.2.2 (M.2.2 v0 13) : Nat)) <|
      rhck (r76.1.2.2.1 ((Γ.1 + 1)) = 4) <|
      let M80 := rhsr r76.2 (M.2.2 v0 13) (v1 : Int32).toNatClampNeg ((Γ.1 + 1))
      let x81 : Int32 := v1 + 1
      f_X11_init_136 k163 n r76.1 M80 v0 x81)
    else
      k163 Γ M v0
def f_X11_init_163 (Γ : rhG) (M : rhM) (v0 : Nat) : Option (rhG × rhM) :=
  rhck (Γ.2.2.1 v0 = 12) <|
  (f_X11_beginTown Γ M v0).bind fun r83 =>
  some (Γ, r83)
def f_X11_init (Γ : rhG) (M : rhM) (v0 : Nat) : Option (rhG × rhM) :=
  rhck (Γ.2.2.1 v0 = 12) <|
  rhck (0 ≤ (1600 : Int32).toInt ∧ (1600 : Int32).toInt ≤ 67108864) <|
  let M4 := rhmn M (Γ.1 + 1)
  let G3 := rhgn Γ 14 (1600 : Int32).toNatClampNeg (1600 : Int32).toNatClampNeg
  rhck (G3.2.2.1 v0 = 12) <|
  let M6 := rhsr M4 v0 0 ((Γ.1 + 1))
  let M8 := rhmn M6 (G3.1 + 1)
  let G7 := rhgn G3 5 0 12
  rhck (G7.2.2.1 ((G3.1 + 1)) = 5) <|
  (f_X4_init G7 M8 ((G3.1 + 1))).bind fun r10 =>
  rhck (r10.1.2.2.1 v0 = 12) <|
  let M12 := rhsr r10.2 v0 2 ((G3.1 + 1))
  let M14 := rhmn M12 (r10.1.1 + 1)
  let G13 := rhgn r10.1 10 0 12
  rhck (G13.2.2.1 ((r10.1.1 + 1)) = 10) <|
  (f_X9_init G13 M14 ((r10.1.1 + 1))).bind fun r16 =>
  rhck (r16.1.2.2.1 v0 = 12) <|
  let M18 := rhsr r16.2 v0 3 ((r10.1.1 + 1))
  let M20 := rhmn M18 (r16.1.1 + 1)
  let G19 := rhgn r16.1 10 0 12
  rhck (G19.2.2.1 ((r16.1.1 + 1)) = 10) <|
  (f_X9_init G19 M20 ((r16.1.1 + 1))).bind fun r22 =>
  rhck (r22.1.2.2.1 v0 = 12) <|
  let M24 := rhsr r22.2 v0 4 ((r16.1.1 + 1))
  let M26 := rhmn M24 (r22.1.1 + 1)
  let G25 := rhgn r22.1 8 0 9
  rhck (G25.2.2.1 ((r22.1.1 + 1)) = 8) <|
  (f_X7_init G25 M26 ((r22.1.1 + 1))).bind fun r28 =>
  rhck (r28.1.2.2.1 v0 = 12) <|
  let M30 := rhsr r28.2 v0 5 ((r22.1.1 + 1))
  let M32 := rhmn M30 (r28.1.1 + 1)
  let G31 := rhgn r28.1 8 0 9
  rhck (G31.2.2.1 ((r28.1.1 + 1)) = 8) <|
  (f_X7_init G31 M32 ((r28.1.1 + 1))).bind fun r34 =>
  rhck (r34.1.2.2.1 v0 = 12) <|
  let M36 := rhsr r34.2 v0 6 ((r28.1.1 + 1))
  let M38 := rhmn M36 (r34.1.1 + 1)
  let G37 := rhgn r34.1 4 0 3
  rhck (G37.2.2.1 ((r34.1.1 + 1)) = 4) <|
  (f_X3_init G37 M38 ((r34.1.1 + 1)) (300 : Int32)).bind fun r40 =>
  rhck (r40.1.2.2.1 v0 = 12) <|
  let M42 := rhsr r40.2 v0 7 ((r34.1.1 + 1))
  let M44 := rhmn M42 (r40.1.1 + 1)
  let G43 := rhgn r40.1 4 0 3
  rhck (G43.2.2.1 ((r40.1.1 + 1)) = 4) <|
  (f_X3_init G43 M44 ((r40.1.1 + 1)) (12 : Int32)).bind fun r46 =>
  rhck (r46.1.2.2.1 v0 = 12) <|
  let M48 := rhsr r46.2 v0 8 ((r40.1.1 + 1))
  let M50 := rhmn M48 (r46.1.1 + 1)
  let G49 := rhgn r46.1 4 0 3
  rhck (G49.2.2.1 ((r46.1.1 + 1)) = 4) <|
  (f_X3_init G49 M50 ((r46.1.1 + 1)) (64 : Int32)).bind fun r52 =>
  rhck (r52.1.2.2.1 v0 = 12) <|
  let M54 := rhsr r52.2 v0 9 ((r46.1.1 + 1))
  rhck (0 ≤ (3 : Int32).toInt ∧ (3 : Int32).toInt ≤ 67108864) <|
  let M57 := rhmn M54 (r52.1.1 + 1)
  let G56 := rhgn r52.1 16 (3 : Int32).toNatClampNeg (3 : Int32).toNatClampNeg
  rhck (G56.2.2.1 v0 = 12) <|
  let M59 := rhsr M57 v0 12 ((r52.1.1 + 1))
  rhck (0 ≤ (3 : Int32).toInt ∧ (3 : Int32).toInt ≤ 67108864) <|
  let M62 := rhmn M59 (G56.1 + 1)
  let G61 := rhgn G56 18 (3 : Int32).toNatClampNeg (3 : Int32).toNatClampNeg
  rhck (G61.2.2.1 v0 = 12) <|
  let M64 := rhsr M62 v0 13 ((G56.1 + 1))
  let M66 := rhmn M64 (G61.1 + 1)
  let G65 := rhgn G61 7 0 15
  rhck (G65.2.2.1 ((G61.1 + 1)) = 7) <|
  (f_X6_init G65 M66 ((G61.1 + 1))).bind fun r68 =>
  rhck (r68.1.2.2.1 v0 = 12) <|
  let M70 := rhsr r68.2 v0 14 ((G61.1 + 1))
  f_X11_init_136 (f_X11_init_163) rhFU r68.1 M70 v0 0
set_option maxHeartbeats 4000000 in
set_option maxRecDepth 100000 in
theorem b_X11_init_136 {E : rhE} {Γ0 : rhG} {k163 : rhG → rhM → Nat → Option (rhG × rhM)} (hk163 : ∀ (Γ : rhG) (M : rhM) (v0 : Nat), rhF E 7 2 yX11_init cX11_init none Γ0 rhe2U (k163 Γ M v0) 163 [(0, rhR v0)] [] Γ M) : ∀ (n : Nat) (Γ : rhG) (M : rhM) (v0 : Nat) (v1 : Int32), rhF E 7 2 yX11_init cX11_init none Γ0 rhe2U (f_X11_init_136 k163 n Γ M v0 v1) 136 [(0, rhR v0), (1, rhI v1)] [] Γ M := by
  intro n
  induction n with
  | zero => intro Γ M v0 v1; rw [f_X11_init_136]; exact rhF.nope
  | succ n ih =>
    intro Γ M v0 v1
    rw [f_X11_init_136]
    refine rhF.iload_n (pc := 136) dX11_init_136 1 rfl ?_
    refine rhF.iconst (pc := 137) (v := 3) dX11_init_137 (by decide) ?_
    refine rhF.icmp_ge (pc := 138) 163 dX11_init_138 (by decide) (fun h71 => ?_) (fun h71 => ?_)
    · refine rhF.aload_n (pc := 141) dX11_init_141 0 rfl ?_
      refine rhF.ck (fun h72 => ?_)
      refine rhF.get (pc := 142) (rhR _) dX11_init_142 fl_X11_59 h72 rfl ?_
      refine rhF.iload_n (pc := 145) dX11_init_145 1 rfl ?_
      refine rhF.new (pc := 146) (ci := 3) dX11_init_146 nw_X11_40 ?_
      refine rhF.dupr (pc := 149) dX11_init_149 ?_
      refine rhF.sipush (pc := 150) (v := 300) dX11_init_150 (by decide) ?_
      refine rhF.ck (fun h75 => ?_)
      refine rhF.callI (pc := 153) (embc := rhe2U) [rhI _] dX11_init_153 ml_X11_42 mi_X3_init (fun z => absurd (h75.symm.trans z) (by decide)) (c_X3_init _ _ _ _ _) (by decide) (by decide) rfl (Nat.le_of_ble_eq_true rfl) (fun r76 _ => ?_)
      refine rhF.ck (fun h77 => ?_)
      refine rhF.ck (fun h78 => ?_)
      refine rhF.ck (fun h79 => ?_)
      refine rhF.astP (pc := 156) dX11_init_156 h77 h79 h78 ?_
      refine rhF.iinc (pc := 157) (L' := [(1, rhI _), (0, rhR _)]) dX11_init_157 1 rfl rfl (by decide) rfl ?_
      refine rhF.goto (pc := 160) 136 dX11_init_160 (by decide) ?_
      refine rhF.sub [1, 0] rfl ?_
      exact ih _ _ _ _
    · refine rhF.sub [0] rfl ?_
      exact hk163 _ _ _
set_option maxHeartbeats 4000000 in
set_option maxRecDepth 100000 in
theorem b_X11_init_163 {E : rhE} {Γ0 : rhG} : ∀ (Γ : rhG) (M : rhM) (v0 : Nat), rhF E 7 2 yX11_init cX11_init none Γ0 rhe2U (f_X11_init_163 Γ M v0) 163 [(0, rhR v0)] [] Γ M := by
  intro Γ M v0
  rw [f_X11_init_163]
  refine rhF.aload_n (pc := 163) dX11_init_163 0 rfl ?_
  refine rhF.ck (fun h82 => ?_)
  refine rhF.callV (pc := 164) (ci := 11) (embc := rhe1U _) [] dX11_init_164 ml_X11_70 mv_X11_beginTown ⟨_, rfl, rfl⟩ h82 (c_X11_beginTown _ _ _ _) (by decide) (by decide) rfl (Nat.le_of_ble_eq_true rfl) (fun r83 _ => ?_)
  exact rhF.vret (pc := 167) dX11_init_167 rfl rfl
set_option maxHeartbeats 4000000 in
set_option maxRecDepth 100000 in
theorem b_X11_init {E : rhE} {Γ0 : rhG} : ∀ (Γ : rhG) (M : rhM) (v0 : Nat), rhF E 7 2 yX11_init cX11_init none Γ0 rhe2U (f_X11_init Γ M v0) 0 [(0, rhR v0)] [] Γ M := by
  intro Γ M v0
  rw [f_X11_init]
  refine rhF.aload_n (pc := 0) dX11_init_0 0 rfl ?_
  refine rhF.ck (fun h1 => ?_)
  refine rhF.objInit (pc := 1) dX11_init_1 oi_X11_1 (fun z => absurd (h1.symm.trans z) (by decide)) (by decide) (Nat.le_of_ble_eq_true rfl) ?_
  refine rhF.aload_n (pc := 4) dX11_init_4 0 rfl ?_
  refine rhF.sipush (pc := 5) (v := 1600) dX11_init_5 (by decide) ?_
  refine rhF.ck (fun h2 => ?_)
  refine rhF.newB (pc := 8) dX11_init_8 ac_byte h2 ?_
  refine rhF.ck (fun h5 => ?_)
  refine rhF.putr (pc := 10) dX11_init_10 fl_X11_9 h5 (fun q hq => by cases hq; exact Or.inr ⟨rfl, rfl, rfl⟩) (Or.inr ⟨_, rfl⟩) (fun _ => rfl) ?_
  refine rhF.aload_n (pc := 13) dX11_init_13 0 rfl ?_
  refine rhF.new (pc := 14) (ci := 4) dX11_init_14 nw_X11_13 ?_
  refine rhF.dupr (pc := 17) dX11_init_17 ?_
  refine rhF.ck (fun h9 => ?_)
  refine rhF.callIN (pc := 18) (embc := rhe2U) "RailHouses" [] dX11_init_18 (by decide +kernel) ne_X11_15 mi_X4_init (fun z => absurd (h9.symm.trans z) (by decide)) (c_X4_init _ _ _ _) (by decide) (by decide) rfl (Nat.le_of_ble_eq_true rfl) (fun r10 _ => ?_)
  refine rhF.ck (fun h11 => ?_)
  refine rhF.putr (pc := 21) dX11_init_21 fl_X11_16 h11 (fun q hq => by cases hq; exact Or.inr ⟨rfl, rfl, rfl⟩) (Or.inl ⟨_, rfl⟩) (fun _ => rfl) ?_
  refine rhF.aload_n (pc := 24) dX11_init_24 0 rfl ?_
  refine rhF.new (pc := 25) (ci := 9) dX11_init_25 nw_X11_20 ?_
  refine rhF.dupr (pc := 28) dX11_init_28 ?_
  refine rhF.ck (fun h15 => ?_)
  refine rhF.callI (pc := 29) (embc := rhe2U) [] dX11_init_29 ml_X11_22 mi_X9_init (fun z => absurd (h15.symm.trans z) (by decide)) (c_X9_init _ _ _ _) (by decide) (by decide) rfl (Nat.le_of_ble_eq_true rfl) (fun r16 _ => ?_)
  refine rhF.ck (fun h17 => ?_)
  refine rhF.putr (pc := 32) dX11_init_32 fl_X11_23 h17 (fun q hq => by cases hq; exact Or.inl rfl) (Or.inl ⟨_, rfl⟩) (fun _ => rfl) ?_
  refine rhF.aload_n (pc := 35) dX11_init_35 0 rfl ?_
  refine rhF.new (pc := 36) (ci := 9) dX11_init_36 nw_X11_20 ?_
  refine rhF.dupr (pc := 39) dX11_init_39 ?_
  refine rhF.ck (fun h21 => ?_)
  refine rhF.callI (pc := 40) (embc := rhe2U) [] dX11_init_40 ml_X11_22 mi_X9_init (fun z => absurd (h21.symm.trans z) (by decide)) (c_X9_init _ _ _ _) (by decide) (by decide) rfl (Nat.le_of_ble_eq_true rfl) (fun r22 _ => ?_)
  refine rhF.ck (fun h23 => ?_)
  refine rhF.putr (pc := 43) dX11_init_43 fl_X11_27 h23 (fun q hq => by cases hq; exact Or.inl rfl) (Or.inl ⟨_, rfl⟩) (fun _ => rfl) ?_
  refine rhF.aload_n (pc := 46) dX11_init_46 0 rfl ?_
  refine rhF.new (pc := 47) (ci := 7) dX11_init_47 nw_X11_30 ?_
  refine rhF.dupr (pc := 50) dX11_init_50 ?_
  refine rhF.ck (fun h27 => ?_)
  refine rhF.callIN (pc := 51) (embc := rhe2U) "RailHouses" [] dX11_init_51 (by decide +kernel) ne_X11_32 mi_X7_init (fun z => absurd (h27.symm.trans z) (by decide)) (c_X7_init _ _ _ _) (by decide) (by decide) rfl (Nat.le_of_ble_eq_true rfl) (fun r28 _ => ?_)
  refine rhF.ck (fun h29 => ?_)
  refine rhF.putr (pc := 54) dX11_init_54 fl_X11_33 h29 (fun q hq => by cases hq; exact Or.inr ⟨rfl, rfl, rfl⟩) (Or.inl ⟨_, rfl⟩) (fun _ => rfl) ?_
  refine rhF.aload_n (pc := 57) dX11_init_57 0 rfl ?_
  refine rhF.new (pc := 58) (ci := 7) dX11_init_58 nw_X11_30 ?_
  refine rhF.dupr (pc := 61) dX11_init_61 ?_
  refine rhF.ck (fun h33 => ?_)
  refine rhF.callIN (pc := 62) (embc := rhe2U) "RailHouses" [] dX11_init_62 (by decide +kernel) ne_X11_32 mi_X7_init (fun z => absurd (h33.symm.trans z) (by decide)) (c_X7_init _ _ _ _) (by decide) (by decide) rfl (Nat.le_of_ble_eq_true rfl) (fun r34 _ => ?_)
  refine rhF.ck (fun h35 => ?_)
  refine rhF.putr (pc := 65) dX11_init_65 fl_X11_37 h35 (fun q hq => by cases hq; exact Or.inr ⟨rfl, rfl, rfl⟩) (Or.inl ⟨_, rfl⟩) (fun _ => rfl) ?_
  refine rhF.aload_n (pc := 68) dX11_init_68 0 rfl ?_
  refine rhF.new (pc := 69) (ci := 3) dX11_init_69 nw_X11_40 ?_
  refine rhF.dupr (pc := 72) dX11_init_72 ?_
  refine rhF.sipush (pc := 73) (v := 300) dX11_init_73 (by decide) ?_
  refine rhF.ck (fun h39 => ?_)
  refine rhF.callI (pc := 76) (embc := rhe2U) [rhI _] dX11_init_76 ml_X11_42 mi_X3_init (fun z => absurd (h39.symm.trans z) (by decide)) (c_X3_init _ _ _ _ _) (by decide) (by decide) rfl (Nat.le_of_ble_eq_true rfl) (fun r40 _ => ?_)
  refine rhF.ck (fun h41 => ?_)
  refine rhF.putr (pc := 79) dX11_init_79 fl_X11_45 h41 (fun q hq => by cases hq; exact Or.inr ⟨rfl, rfl, rfl⟩) (Or.inl ⟨_, rfl⟩) (fun _ => rfl) ?_
  refine rhF.aload_n (pc := 82) dX11_init_82 0 rfl ?_
  refine rhF.new (pc := 83) (ci := 3) dX11_init_83 nw_X11_40 ?_
  refine rhF.dupr (pc := 86) dX11_init_86 ?_
  refine rhF.bipush (pc := 87) (v := 12) dX11_init_87 (by decide) ?_
  refine rhF.ck (fun h45 => ?_)
  refine rhF.callI (pc := 89) (embc := rhe2U) [rhI _] dX11_init_89 ml_X11_42 mi_X3_init (fun z => absurd (h45.symm.trans z) (by decide)) (c_X3_init _ _ _ _ _) (by decide) (by decide) rfl (Nat.le_of_ble_eq_true rfl) (fun r46 _ => ?_)
  refine rhF.ck (fun h47 => ?_)
  refine rhF.putr (pc := 92) dX11_init_92 fl_X11_49 h47 (fun q hq => by cases hq; exact Or.inr ⟨rfl, rfl, rfl⟩) (Or.inl ⟨_, rfl⟩) (fun _ => rfl) ?_
  refine rhF.aload_n (pc := 95) dX11_init_95 0 rfl ?_
  refine rhF.new (pc := 96) (ci := 3) dX11_init_96 nw_X11_40 ?_
  refine rhF.dupr (pc := 99) dX11_init_99 ?_
  refine rhF.bipush (pc := 100) (v := 64) dX11_init_100 (by decide) ?_
  refine rhF.ck (fun h51 => ?_)
  refine rhF.callI (pc := 102) (embc := rhe2U) [rhI _] dX11_init_102 ml_X11_42 mi_X3_init (fun z => absurd (h51.symm.trans z) (by decide)) (c_X3_init _ _ _ _ _) (by decide) (by decide) rfl (Nat.le_of_ble_eq_true rfl) (fun r52 _ => ?_)
  refine rhF.ck (fun h53 => ?_)
  refine rhF.putr (pc := 105) dX11_init_105 fl_X11_52 h53 (fun q hq => by cases hq; exact Or.inr ⟨rfl, rfl, rfl⟩) (Or.inl ⟨_, rfl⟩) (fun _ => rfl) ?_
  refine rhF.aload_n (pc := 108) dX11_init_108 0 rfl ?_
  refine rhF.iconst (pc := 109) (v := 3) dX11_init_109 (by decide) ?_
  refine rhF.ck (fun h55 => ?_)
  refine rhF.newJ (pc := 110) dX11_init_110 ac_long h55 ?_
  refine rhF.ck (fun h58 => ?_)
  refine rhF.putr (pc := 112) dX11_init_112 fl_X11_55 h58 (fun q hq => by cases hq; exact Or.inr ⟨rfl, rfl, rfl⟩) (Or.inr ⟨_, rfl⟩) (fun _ => rfl) ?_
  refine rhF.aload_n (pc := 115) dX11_init_115 0 rfl ?_
  refine rhF.iconst (pc := 116) (v := 3) dX11_init_116 (by decide) ?_
  refine rhF.ck (fun h60 => ?_)
  refine rhF.newP (pc := 117) dX11_init_117 cl_X11_40 h60 ?_
  refine rhF.ck (fun h63 => ?_)
  refine rhF.putr (pc := 120) dX11_init_120 fl_X11_59 h63 (fun q hq => by cases hq; exact Or.inr ⟨rfl, rfl, rfl⟩) (Or.inr ⟨_, rfl⟩) (fun _ => rfl) ?_
  refine rhF.aload_n (pc := 123) dX11_init_123 0 rfl ?_
  refine rhF.new (pc := 124) (ci := 6) dX11_init_124 nw_X11_63 ?_
  refine rhF.dupr (pc := 127) dX11_init_127 ?_
  refine rhF.ck (fun h67 => ?_)
  refine rhF.callI (pc := 128) (embc := rhe2U) [] dX11_init_128 ml_X11_65 mi_X6_init (fun z => absurd (h67.symm.trans z) (by decide)) (c_X6_init _ _ _ _) (by decide) (by decide) rfl (Nat.le_of_ble_eq_true rfl) (fun r68 _ => ?_)
  refine rhF.ck (fun h69 => ?_)
  refine rhF.putr (pc := 131) dX11_init_131 fl_X11_66 h69 (fun q hq => by cases hq; exact Or.inr ⟨rfl, rfl, rfl⟩) (Or.inl ⟨_, rfl⟩) (fun _ => rfl) ?_
  refine rhF.iconst (pc := 134) (v := 0) dX11_init_134 (by decide) ?_
  refine rhF.istore_n (pc := 135) (L' := [(1, rhI _), (0, rhR _)]) dX11_init_135 (by decide) rfl ?_
  refine rhF.sub [1, 0] rfl ?_
  exact (b_X11_init_136 (b_X11_init_163) rhFU) _ _ _ _
theorem c_X11_init (E : rhE) (Γ : rhG) (M : rhM) (v0 : Nat) : ∀ a, f_X11_init Γ M v0 = some a → rhC E 7 yX11_init cX11_init 2 none [rhR v0] Γ M (rhe2U a) := rhF.met (by decide +kernel) (Nat.le_of_ble_eq_true rfl) (b_X11_init (Γ0 := Γ) Γ M v0)
def f_X11_isLawfulFrom (Γ : rhG) (M : rhM) (v0 : Nat) (v1 : Nat) (v2 : Int32) (v3 : Int32) (v4 : Int32) : Option (Int32 × rhM) :=
  rhck (Γ.2.2.1 v0 = 12) <|
  (f_X11_canBeFrom Γ M v0 v1 v2 v3 v4).bind fun r2 =>
  if r2 = 0 then
    (some ((0, M)))
  else
    rhck (Γ.2.2.1 v1 = 8) <|
    (f_X7_last Γ M v1 v2 v3).bind fun r5 =>
    rhck (Γ.2.2.1 (M.2.2 v1 4) = 15) <|
    rhck (0 ≤ (v4).toInt ∧ (v4).toInt < (Γ.2.2.2 (M.2.2 v1 4) : Nat)) <|
    rhck (Γ.2.2.1 (M.2.2 v0 3) = 10) <|
    (f_X9_allows Γ M (M.2.2 v0 3) v2 r5 v4 (M.1 (M.2.2 v1 4) v4.toNatClampNeg)).bind fun r9 =>
    if r9.1 = 0 then
      (some ((0, r9.2)))
    else
      some ((1, r9.2))
set_option maxHeartbeats 4000000 in
set_option maxRecDepth 100000 in
theorem b_X11_isLawfulFrom {E : rhE} {Γ : rhG} : ∀ (M : rhM) (v0 : Nat) (v1 : Nat) (v2 : Int32) (v3 : Int32) (v4 : Int32), rhF E 7 5 yX11_isLawfulFrom cX11_isLawfulFrom (some .boolean) Γ (rhe1I Γ) (f_X11_isLawfulFrom Γ M v0 v1 v2 v3 v4) 0 [(0, rhR v0), (1, rhR v1), (2, rhI v2), (3, rhI v3), (4, rhI v4)] [] Γ M := by
  intro M v0 v1 v2 v3 v4
  rw [f_X11_isLawfulFrom]
  refine rhF.aload_n (pc := 0) dX11_isLawfulFrom_0 0 rfl ?_
  refine rhF.aload_n (pc := 1) dX11_isLawfulFrom_1 1 rfl ?_
  refine rhF.iload_n (pc := 2) dX11_isLawfulFrom_2 2 rfl ?_
  refine rhF.iload_n (pc := 3) dX11_isLawfulFrom_3 3 rfl ?_
  refine rhF.iload (pc := 4) dX11_isLawfulFrom_4 4 rfl ?_
  refine rhF.ck (fun h1 => ?_)
  refine rhF.callV (pc := 6) (ci := 11) (embc := rhe0I _ _) [rhR _, rhI _, rhI _, rhI _] dX11_isLawfulFrom_6 ml_X11_148 mv_X11_canBeFrom ⟨_, rfl, rfl⟩ h1 (c_X11_canBeFrom _ _ _ _ _ _ _ _) (by decide) (by decide) rfl (Nat.le_of_ble_eq_true rfl) (fun r2 _ => ?_)
  refine rhF.if_eq (pc := 9) 42 dX11_isLawfulFrom_9 (by decide) (fun h3 => ?_) (fun h3 => ?_)
  · refine rhF.iconst (pc := 42) (v := 0) dX11_isLawfulFrom_42 (by decide) ?_
    exact rhF.zret (pc := 43) dX11_isLawfulFrom_43 rfl rfl rfl
  · refine rhF.aload_n (pc := 12) dX11_isLawfulFrom_12 0 rfl ?_
    refine rhF.get (pc := 13) (rhR _) dX11_isLawfulFrom_13 fl_X11_23 h1 rfl ?_
    refine rhF.iload_n (pc := 16) dX11_isLawfulFrom_16 2 rfl ?_
    refine rhF.aload_n (pc := 17) dX11_isLawfulFrom_17 1 rfl ?_
    refine rhF.iload_n (pc := 18) dX11_isLawfulFrom_18 2 rfl ?_
    refine rhF.iload_n (pc := 19) dX11_isLawfulFrom_19 3 rfl ?_
    refine rhF.ck (fun h4 => ?_)
    refine rhF.callV (pc := 20) (ci := 7) (embc := rhe0I _ _) [rhI _, rhI _] dX11_isLawfulFrom_20 ml_X11_152 mv_X7_last ⟨_, rfl, rfl⟩ h4 (c_X7_last _ _ _ _ _ _) (by decide) (by decide) rfl (Nat.le_of_ble_eq_true rfl) (fun r5 _ => ?_)
    refine rhF.iload (pc := 23) dX11_isLawfulFrom_23 4 rfl ?_
    refine rhF.aload_n (pc := 25) dX11_isLawfulFrom_25 1 rfl ?_
    refine rhF.get (pc := 26) (rhR _) dX11_isLawfulFrom_26 fl_X11_134 h4 rfl ?_
    refine rhF.iload (pc := 29) dX11_isLawfulFrom_29 4 rfl ?_
    refine rhF.ck (fun h6 => ?_)
    refine rhF.ck (fun h7 => ?_)
    refine rhF.iald (pc := 31) dX11_isLawfulFrom_31 h6 h7 ?_
    refine rhF.ck (fun h8 => ?_)
    refine rhF.callV (pc := 32) (ci := 9) (embc := rhe1I _) [rhI _, rhI _, rhI _, rhI _] dX11_isLawfulFrom_32 ml_X11_155 mv_X9_allows ⟨_, rfl, rfl⟩ h8 (c_X9_allows _ _ _ _ _ _ _ _) (by decide) (by decide) rfl (Nat.le_of_ble_eq_true rfl) (fun r9 _ => ?_)
    refine rhF.if_eq (pc := 35) 42 dX11_isLawfulFrom_35 (by decide) (fun h10 => ?_) (fun h10 => ?_)
    · refine rhF.iconst (pc := 42) (v := 0) dX11_isLawfulFrom_42 (by decide) ?_
      exact rhF.zret (pc := 43) dX11_isLawfulFrom_43 rfl rfl rfl
    · refine rhF.iconst (pc := 38) (v := 1) dX11_isLawfulFrom_38 (by decide) ?_
      refine rhF.goto (pc := 39) 43 dX11_isLawfulFrom_39 (by decide) ?_
      exact rhF.zret (pc := 43) dX11_isLawfulFrom_43 rfl rfl rfl
theorem c_X11_isLawfulFrom (E : rhE) (Γ : rhG) (M : rhM) (v0 : Nat) (v1 : Nat) (v2 : Int32) (v3 : Int32) (v4 : Int32) : ∀ a, f_X11_isLawfulFrom Γ M v0 v1 v2 v3 v4 = some a → rhC E 7 yX11_isLawfulFrom cX11_isLawfulFrom 5 (some .boolean) [rhR v0, rhR v1, rhI v2, rhI v3, rhI v4] Γ M ((rhe1I Γ) a) := rhF.met (by decide +kernel) (Nat.le_of_ble_eq_true rfl) (b_X11_isLawfulFrom M v0 v1 v2 v3 v4)
def f_X11_judge_25 (k99 : rhM → Nat → Int32 → Int32 → Int32 → Option (Int32 × rhM)) (k157 : rhM → Nat → Int32 → Int32 → Int32 → Option (Int32 × rhM)) (Γ : rhG) : Nat → rhM → Nat → Int32 → Int32 → Int32 → Int32 → Option (Int32 × rhM)
  | 0, _, _, _, _, _, _ => none
  | n + 1, M, v0, v1, v2, v3, v4 =>
    rhck (Γ.2.2.1 v0 = 12) <|
    rhck (Γ.2.2.1 (M.2.2 v0 8) = 4) <|
    if v4 < (M.1 (M.2.2 v0 8) 1) then
      (rhck (Γ.2.2.1 (M.2.2 (M.2.2 v0 8) 0) = 15) <|
      rhck (0 ≤ (v4).toInt ∧ (v4).toInt < (Γ.2.2.2 (M.2.2 (M.2.2 v0 8) 0) : Nat)) <|
      (f_X3_fromOf Γ M (M.1 (M.2.2 (M.2.2 v0 8) 0) v4.toNatClampNeg)).bind fun r10 =>
      (f_X3_manyOf Γ M (M.1 (M.2.2 (M.2.2 v0 8) 0) v4.toNatClampNeg)).bind fun r11 =>
      (f_X3_toOf Γ M (M.1 (M.2.2 (M.2.2 v0 8) 0) v4.toNatClampNeg)).bind fun r12 =>
      (f_X11_isLawfulFrom Γ M v0 (M.2.2 v0 6) r10 r11 r12).bind fun r13 =>
      if r13.1 = 0 then
        (k99 r13.2 v0 v1 v2 v3)
      else
        rhck (Γ.2.2.1 (r13.2.2.2 v0 3) = 10) <|
        rhck (Γ.2.2.1 (r13.2.2.2 v0 6) = 8) <|
        (f_X7_last Γ r13.2 (r13.2.2.2 v0 6) r10 r11).bind fun r17 =>
        rhck (Γ.2.2.1 (r13.2.2.2 (r13.2.2.2 v0 3) 8) = 15) <|
        rhck (0 ≤ (r17).toInt ∧ (r17).toInt < (Γ.2.2.2 (r13.2.2.2 (r13.2.2.2 v0 3) 8) : Nat)) <|
        let x20 := v2 + (r13.2.1 (r13.2.2.2 (r13.2.2.2 v0 3) 8) r17.toNatClampNeg)
        (f_X7_after Γ r13.2 (r13.2.2.2 v0 6) r10 r11 r12).bind fun r21 =>
        (f_X7_look Γ r13.2 (r13.2.2.2 v0 6) (r13.2.2.2 v0 3) r21).bind fun r22 =>
        let x23 : Int32 := v3 + 1
        let x24 : Int32 := v4 + 1
        f_X11_judge_25 k99 k157 Γ n r22 v0 v1 x20 x23 x24)
    else
      k157 M v0 v1 v2 v3
def f_X11_judge_99 (k157 : rhM → Nat → Int32 → Int32 → Int32 → Option (Int32 × rhM)) (Γ : rhG) (M : rhM) (v0 : Nat) (v1 : Int32) (v2 : Int32) (v3 : Int32) : Option (Int32 × rhM) :=
  k157 M v0 v1 v2 v3
def f_X11_judge_157 (Γ : rhG) (M : rhM) (v0 : Nat) (v1 : Int32) (v2 : Int32) (v3 : Int32) : Option (Int32 × rhM) :=
  if v1 = 0 then
    (rhck (Γ.2.2.1 v0 = 12) <|
    rhck (Γ.2.2.1 (M.2.2 v0 8) = 4) <|
    if v3 = (M.1 (M.2.2 v0 8) 1) then
      (some (((-1), M)))
    else
      some ((v3, M)))
  else
  if v1 = 1 then
    (some ((v2, M)))
  else
  if v1 = 2 then
    (rhck (Γ.2.2.1 v0 = 12) <|
    rhck (Γ.2.2.1 (M.2.2 v0 6) = 8) <|
    rhck (Γ.2.2.1 (M.2.2 v0 3) = 10) <|
    (f_X9_worthOf Γ M (M.2.2 v0 3) (M.2.1 (M.2.2 v0 6) 0)).bind fun r34 =>
    some ((r34, M)))
  else
  some (((-1000000), M))
def f_X11_judge (Γ : rhG) (M : rhM) (v0 : Nat) (v1 : Int32) : Option (Int32 × rhM) :=
  rhck (Γ.2.2.1 v0 = 12) <|
  rhck (Γ.2.2.1 (M.2.2 v0 5) = 8) <|
  rhck (Γ.2.2.1 (M.2.2 v0 6) = 8) <|
  (f_X7_look Γ M (M.2.2 v0 6) (M.2.2 v0 3) (M.2.1 (M.2.2 v0 5) 0)).bind fun r4 =>
  f_X11_judge_25 (f_X11_judge_99 (f_X11_judge_157 Γ) Γ) (f_X11_judge_157 Γ) Γ rhFU r4 v0 v1 0 0 0
set_option maxHeartbeats 4000000 in
set_option maxRecDepth 100000 in
theorem b_X11_judge_25 {E : rhE} {Γ : rhG} {k99 : rhM → Nat → Int32 → Int32 → Int32 → Option (Int32 × rhM)} {k157 : rhM → Nat → Int32 → Int32 → Int32 → Option (Int32 × rhM)} (hk99 : ∀ (M : rhM) (v0 : Nat) (v1 : Int32) (v2 : Int32) (v3 : Int32), rhF E 8 8 yX11_judge cX11_judge (some .int) Γ (rhe1I Γ) (k99 M v0 v1 v2 v3) 99 [(0, rhR v0), (1, rhI v1), (2, rhI v2), (3, rhI v3)] [] Γ M) (hk157 : ∀ (M : rhM) (v0 : Nat) (v1 : Int32) (v2 : Int32) (v3 : Int32), rhF E 8 8 yX11_judge cX11_judge (some .int) Γ (rhe1I Γ) (k157 M v0 v1 v2 v3) 157 [(0, rhR v0), (1, rhI v1), (2, rhI v2), (3, rhI v3)] [] Γ M) : ∀ (n : Nat) (M : rhM) (v0 : Nat) (v1 : Int32) (v2 : Int32) (v3 : Int32) (v4 : Int32), rhF E 8 8 yX11_judge cX11_judge (some .int) Γ (rhe1I Γ) (f_X11_judge_25 k99 k157 Γ n M v0 v1 v2 v3 v4) 25 [(0, rhR v0), (1, rhI v1), (2, rhI v2), (3, rhI v3), (4, rhI v4)] [] Γ M := by
  intro n
  induction n with
  | zero => intro M v0 v1 v2 v3 v4; rw [f_X11_judge_25]; exact rhF.nope
  | succ n ih =>
    intro M v0 v1 v2 v3 v4
    rw [f_X11_judge_25]
    refine rhF.iload (pc := 25) dX11_judge_25 4 rfl ?_
    refine rhF.aload_n (pc := 27) dX11_judge_27 0 rfl ?_
    refine rhF.ck (fun h5 => ?_)
    refine rhF.get (pc := 28) (rhR _) dX11_judge_28 fl_X11_49 h5 rfl ?_
    refine rhF.ck (fun h6 => ?_)
    refine rhF.get (pc := 31) (rhI _) dX11_judge_31 fl_X11_184 h6 rfl ?_
    refine rhF.icmp_ge (pc := 34) 157 dX11_judge_34 (by decide) (fun h7 => ?_) (fun h7 => ?_)
    · refine rhF.aload_n (pc := 37) dX11_judge_37 0 rfl ?_
      refine rhF.get (pc := 38) (rhR _) dX11_judge_38 fl_X11_49 h5 rfl ?_
      refine rhF.get (pc := 41) (rhR _) dX11_judge_41 fl_X11_192 h6 rfl ?_
      refine rhF.iload (pc := 44) dX11_judge_44 4 rfl ?_
      refine rhF.ck (fun h8 => ?_)
      refine rhF.ck (fun h9 => ?_)
      refine rhF.iald (pc := 46) dX11_judge_46 h8 h9 ?_
      refine rhF.callS (pc := 47) (embc := rhe0I _ _) [rhI _] dX11_judge_47 ml_X11_198 ms_X3_fromOf (c_X3_fromOf _ _ _ _) (by decide) (by decide) rfl (Nat.le_of_ble_eq_true rfl) (fun r10 _ => ?_)
      refine rhF.istore (pc := 50) (L' := [(5, rhI _), (0, rhR _), (1, rhI _), (2, rhI _), (3, rhI _), (4, rhI _)]) dX11_judge_50 (by decide) rfl ?_
      refine rhF.aload_n (pc := 52) dX11_judge_52 1 rfl ?_
      refine rhF.get (pc := 53) (rhR _) dX11_judge_53 fl_X11_49 h5 rfl ?_
      refine rhF.get (pc := 56) (rhR _) dX11_judge_56 fl_X11_192 h6 rfl ?_
      refine rhF.iload (pc := 59) dX11_judge_59 5 rfl ?_
      refine rhF.iald (pc := 61) dX11_judge_61 h8 h9 ?_
      refine rhF.callS (pc := 62) (embc := rhe0I _ _) [rhI _] dX11_judge_62 ml_X11_201 ms_X3_manyOf (c_X3_manyOf _ _ _ _) (by decide) (by decide) rfl (Nat.le_of_ble_eq_true rfl) (fun r11 _ => ?_)
      refine rhF.istore (pc := 65) (L' := [(6, rhI _), (5, rhI _), (0, rhR _), (1, rhI _), (2, rhI _), (3, rhI _), (4, rhI _)]) dX11_judge_65 (by decide) rfl ?_
      refine rhF.aload_n (pc := 67) dX11_judge_67 2 rfl ?_
      refine rhF.get (pc := 68) (rhR _) dX11_judge_68 fl_X11_49 h5 rfl ?_
      refine rhF.get (pc := 71) (rhR _) dX11_judge_71 fl_X11_192 h6 rfl ?_
      refine rhF.iload (pc := 74) dX11_judge_74 6 rfl ?_
      refine rhF.iald (pc := 76) dX11_judge_76 h8 h9 ?_
      refine rhF.callS (pc := 77) (embc := rhe0I _ _) [rhI _] dX11_judge_77 ml_X11_204 ms_X3_toOf (c_X3_toOf _ _ _ _) (by decide) (by decide) rfl (Nat.le_of_ble_eq_true rfl) (fun r12 _ => ?_)
      refine rhF.istore (pc := 80) (L' := [(7, rhI _), (6, rhI _), (5, rhI _), (0, rhR _), (1, rhI _), (2, rhI _), (3, rhI _), (4, rhI _)]) dX11_judge_80 (by decide) rfl ?_
      refine rhF.aload_n (pc := 82) dX11_judge_82 3 rfl ?_
      refine rhF.aload_n (pc := 83) dX11_judge_83 3 rfl ?_
      refine rhF.get (pc := 84) (rhR _) dX11_judge_84 fl_X11_37 h5 rfl ?_
      refine rhF.iload (pc := 87) dX11_judge_87 2 rfl ?_
      refine rhF.iload (pc := 89) dX11_judge_89 1 rfl ?_
      refine rhF.iload (pc := 91) dX11_judge_91 0 rfl ?_
      refine rhF.callV (pc := 93) (ci := 11) (embc := rhe1I _) [rhR _, rhI _, rhI _, rhI _] dX11_judge_93 ml_X11_164 mv_X11_isLawfulFrom ⟨_, rfl, rfl⟩ h5 (c_X11_isLawfulFrom _ _ _ _ _ _ _ _) (by decide) (by decide) rfl (Nat.le_of_ble_eq_true rfl) (fun r13 _ => ?_)
      refine rhF.if_ne (pc := 96) 102 dX11_judge_96 (by decide) (fun h14 => ?_) (fun h14 => ?_)
      · refine rhF.sub [3, 4, 5, 6] rfl ?_
        exact hk99 _ _ _ _ _
      · refine rhF.iload_n (pc := 102) dX11_judge_102 5 rfl ?_
        refine rhF.aload_n (pc := 103) dX11_judge_103 3 rfl ?_
        refine rhF.get (pc := 104) (rhR _) dX11_judge_104 fl_X11_23 h5 rfl ?_
        refine rhF.ck (fun h15 => ?_)
        refine rhF.get (pc := 107) (rhR _) dX11_judge_107 fl_X11_167 h15 rfl ?_
        refine rhF.aload_n (pc := 110) dX11_judge_110 3 rfl ?_
        refine rhF.get (pc := 111) (rhR _) dX11_judge_111 fl_X11_37 h5 rfl ?_
        refine rhF.iload (pc := 114) dX11_judge_114 2 rfl ?_
        refine rhF.iload (pc := 116) dX11_judge_116 1 rfl ?_
        refine rhF.ck (fun h16 => ?_)
        refine rhF.callV (pc := 118) (ci := 7) (embc := rhe0I _ _) [rhI _, rhI _] dX11_judge_118 ml_X11_152 mv_X7_last ⟨_, rfl, rfl⟩ h16 (c_X7_last _ _ _ _ _ _) (by decide) (by decide) rfl (Nat.le_of_ble_eq_true rfl) (fun r17 _ => ?_)
        refine rhF.ck (fun h18 => ?_)
        refine rhF.ck (fun h19 => ?_)
        refine rhF.iald (pc := 121) dX11_judge_121 h18 h19 ?_
        refine rhF.iadd (pc := 122) dX11_judge_122 ?_
        refine rhF.istore_n (pc := 123) (L' := [(2, rhI _), (7, rhI _), (6, rhI _), (5, rhI _), (0, rhR _), (1, rhI _), (3, rhI _), (4, rhI _)]) dX11_judge_123 (by decide) rfl ?_
        refine rhF.aload_n (pc := 124) dX11_judge_124 4 rfl ?_
        refine rhF.get (pc := 125) (rhR _) dX11_judge_125 fl_X11_37 h5 rfl ?_
        refine rhF.aload_n (pc := 128) dX11_judge_128 4 rfl ?_
        refine rhF.get (pc := 129) (rhR _) dX11_judge_129 fl_X11_23 h5 rfl ?_
        refine rhF.aload_n (pc := 132) dX11_judge_132 4 rfl ?_
        refine rhF.get (pc := 133) (rhR _) dX11_judge_133 fl_X11_37 h5 rfl ?_
        refine rhF.iload (pc := 136) dX11_judge_136 3 rfl ?_
        refine rhF.iload (pc := 138) dX11_judge_138 2 rfl ?_
        refine rhF.iload (pc := 140) dX11_judge_140 1 rfl ?_
        refine rhF.callV (pc := 142) (ci := 7) (embc := rhe0J _ _) [rhI _, rhI _, rhI _] dX11_judge_142 ml_X11_180 mv_X7_after ⟨_, rfl, rfl⟩ h16 (c_X7_after _ _ _ _ _ _ _) (by decide) (by decide) rfl (Nat.le_of_ble_eq_true rfl) (fun r21 _ => ?_)
        refine rhF.callV (pc := 145) (ci := 7) (embc := rhe1U _) [rhR _, rhJ _] dX11_judge_145 ml_X11_91 mv_X7_look ⟨_, rfl, rfl⟩ h16 (c_X7_look _ _ _ _ _ _) (by decide) (by decide) rfl (Nat.le_of_ble_eq_true rfl) (fun r22 _ => ?_)
        refine rhF.iinc (pc := 148) (L' := [(3, rhI _), (2, rhI _), (7, rhI _), (6, rhI _), (5, rhI _), (0, rhR _), (1, rhI _), (4, rhI _)]) dX11_judge_148 6 rfl rfl (by decide) rfl ?_
        refine rhF.iinc (pc := 151) (L' := [(4, rhI _), (3, rhI _), (2, rhI _), (7, rhI _), (6, rhI _), (5, rhI _), (0, rhR _), (1, rhI _)]) dX11_judge_151 7 rfl rfl (by decide) rfl ?_
        refine rhF.goto (pc := 154) 25 dX11_judge_154 (by decide) ?_
        refine rhF.sub [6, 7, 2, 1, 0] rfl ?_
        exact ih _ _ _ _ _ _
    · refine rhF.sub [0, 1, 2, 3] rfl ?_
      exact hk157 _ _ _ _ _
set_option maxHeartbeats 4000000 in
set_option maxRecDepth 100000 in
theorem b_X11_judge_99 {E : rhE} {Γ : rhG} {k157 : rhM → Nat → Int32 → Int32 → Int32 → Option (Int32 × rhM)} (hk157 : ∀ (M : rhM) (v0 : Nat) (v1 : Int32) (v2 : Int32) (v3 : Int32), rhF E 8 8 yX11_judge cX11_judge (some .int) Γ (rhe1I Γ) (k157 M v0 v1 v2 v3) 157 [(0, rhR v0), (1, rhI v1), (2, rhI v2), (3, rhI v3)] [] Γ M) : ∀ (M : rhM) (v0 : Nat) (v1 : Int32) (v2 : Int32) (v3 : Int32), rhF E 8 8 yX11_judge cX11_judge (some .int) Γ (rhe1I Γ) (f_X11_judge_99 k157 Γ M v0 v1 v2 v3) 99 [(0, rhR v0), (1, rhI v1), (2, rhI v2), (3, rhI v3)] [] Γ M := by
  intro M v0 v1 v2 v3
  rw [f_X11_judge_99]
  refine rhF.goto (pc := 99) 157 dX11_judge_99 (by decide) ?_
  exact hk157 _ _ _ _ _
set_option maxHeartbeats 4000000 in
set_option maxRecDepth 100000 in
theorem b_X11_judge_157 {E : rhE} {Γ : rhG} : ∀ (M : rhM) (v0 : Nat) (v1 : Int32) (v2 : Int32) (v3 : Int32), rhF E 8 8 yX11_judge cX11_judge (some .int) Γ (rhe1I Γ) (f_X11_judge_157 Γ M v0 v1 v2 v3) 157 [(0, rhR v0), (1, rhI v1), (2, rhI v2), (3, rhI v3)] [] Γ M := by
  intro M v0 v1 v2 v3
  rw [f_X11_judge_157]
  refine rhF.iload_n (pc := 157) dX11_judge_157 1 rfl ?_
  refine rhF.ite (fun h25 => ?_) (fun h25 => ?_)
  · refine rhF.tsIn (pc := 158) 184 0 dX11_judge_158 (by rw [h25]; decide) (by decide) rfl (by decide) ?_
    refine rhF.iload_n (pc := 184) dX11_judge_184 3 rfl ?_
    refine rhF.aload_n (pc := 185) dX11_judge_185 0 rfl ?_
    refine rhF.ck (fun h26 => ?_)
    refine rhF.get (pc := 186) (rhR _) dX11_judge_186 fl_X11_49 h26 rfl ?_
    refine rhF.ck (fun h27 => ?_)
    refine rhF.get (pc := 189) (rhI _) dX11_judge_189 fl_X11_184 h27 rfl ?_
    refine rhF.icmp_ne (pc := 192) 199 dX11_judge_192 (by decide) (fun h28 => ?_) (fun h28 => ?_)
    · refine rhF.iconst (pc := 195) (v := (-1)) dX11_judge_195 (by decide) ?_
      refine rhF.goto (pc := 196) 200 dX11_judge_196 (by decide) ?_
      exact rhF.zret (pc := 200) dX11_judge_200 rfl rfl rfl
    · refine rhF.iload_n (pc := 199) dX11_judge_199 3 rfl ?_
      exact rhF.zret (pc := 200) dX11_judge_200 rfl rfl rfl
  · skip
    refine rhF.ite (fun h29 => ?_) (fun h29 => ?_)
    · refine rhF.tsIn (pc := 158) 201 1 dX11_judge_158 (by rw [h29]; decide) (by decide) rfl (by decide) ?_
      refine rhF.iload_n (pc := 201) dX11_judge_201 2 rfl ?_
      exact rhF.zret (pc := 202) dX11_judge_202 rfl rfl rfl
    · skip
      refine rhF.ite (fun h30 => ?_) (fun h30 => ?_)
      · refine rhF.tsIn (pc := 158) 203 2 dX11_judge_158 (by rw [h30]; decide) (by decide) rfl (by decide) ?_
        refine rhF.aload_n (pc := 203) dX11_judge_203 0 rfl ?_
        refine rhF.ck (fun h31 => ?_)
        refine rhF.get (pc := 204) (rhR _) dX11_judge_204 fl_X11_23 h31 rfl ?_
        refine rhF.aload_n (pc := 207) dX11_judge_207 0 rfl ?_
        refine rhF.get (pc := 208) (rhR _) dX11_judge_208 fl_X11_37 h31 rfl ?_
        refine rhF.ck (fun h32 => ?_)
        refine rhF.get (pc := 211) (rhJ _) dX11_judge_211 fl_X11_207 h32 rfl ?_
        refine rhF.ck (fun h33 => ?_)
        refine rhF.callV (pc := 214) (ci := 9) (embc := rhe0I _ _) [rhJ _] dX11_judge_214 ml_X11_210 mv_X9_worthOf ⟨_, rfl, rfl⟩ h33 (c_X9_worthOf _ _ _ _ _) (by decide) (by decide) rfl (Nat.le_of_ble_eq_true rfl) (fun r34 _ => ?_)
        exact rhF.zret (pc := 217) dX11_judge_217 rfl rfl rfl
      · skip
        have zh25 := rhne h25 (n := 0) (by decide)
        have zh29 := rhne h29 (n := 1) (by decide)
        have zh30 := rhne h30 (n := 2) (by decide)
        refine rhF.tsOut (pc := 158) 218 dX11_judge_158 (by omega) (by decide) ?_
        refine rhF.ldc (pc := 218) dX11_judge_218 k_X11_159 ?_
        exact rhF.zret (pc := 220) dX11_judge_220 rfl rfl rfl
set_option maxHeartbeats 4000000 in
set_option maxRecDepth 100000 in
theorem b_X11_judge {E : rhE} {Γ : rhG} : ∀ (M : rhM) (v0 : Nat) (v1 : Int32), rhF E 8 8 yX11_judge cX11_judge (some .int) Γ (rhe1I Γ) (f_X11_judge Γ M v0 v1) 0 [(0, rhR v0), (1, rhI v1)] [] Γ M := by
  intro M v0 v1
  rw [f_X11_judge]
  refine rhF.aload_n (pc := 0) dX11_judge_0 0 rfl ?_
  refine rhF.ck (fun h1 => ?_)
  refine rhF.get (pc := 1) (rhR _) dX11_judge_1 fl_X11_37 h1 rfl ?_
  refine rhF.aload_n (pc := 4) dX11_judge_4 0 rfl ?_
  refine rhF.get (pc := 5) (rhR _) dX11_judge_5 fl_X11_23 h1 rfl ?_
  refine rhF.aload_n (pc := 8) dX11_judge_8 0 rfl ?_
  refine rhF.get (pc := 9) (rhR _) dX11_judge_9 fl_X11_33 h1 rfl ?_
  refine rhF.ck (fun h2 => ?_)
  refine rhF.get (pc := 12) (rhJ _) dX11_judge_12 fl_X11_207 h2 rfl ?_
  refine rhF.ck (fun h3 => ?_)
  refine rhF.callV (pc := 15) (ci := 7) (embc := rhe1U _) [rhR _, rhJ _] dX11_judge_15 ml_X11_91 mv_X7_look ⟨_, rfl, rfl⟩ h3 (c_X7_look _ _ _ _ _ _) (by decide) (by decide) rfl (Nat.le_of_ble_eq_true rfl) (fun r4 _ => ?_)
  refine rhF.iconst (pc := 18) (v := 0) dX11_judge_18 (by decide) ?_
  refine rhF.istore_n (pc := 19) (L' := [(2, rhI _), (0, rhR _), (1, rhI _)]) dX11_judge_19 (by decide) rfl ?_
  refine rhF.iconst (pc := 20) (v := 0) dX11_judge_20 (by decide) ?_
  refine rhF.istore_n (pc := 21) (L' := [(3, rhI _), (2, rhI _), (0, rhR _), (1, rhI _)]) dX11_judge_21 (by decide) rfl ?_
  refine rhF.iconst (pc := 22) (v := 0) dX11_judge_22 (by decide) ?_
  refine rhF.istore (pc := 23) (L' := [(4, rhI _), (3, rhI _), (2, rhI _), (0, rhR _), (1, rhI _)]) dX11_judge_23 (by decide) rfl ?_
  refine rhF.sub [3, 4, 2, 1, 0] rfl ?_
  exact (b_X11_judge_25 (b_X11_judge_99 (b_X11_judge_157)) (b_X11_judge_157) rhFU) _ _ _ _ _ _
theorem c_X11_judge (E : rhE) (Γ : rhG) (M : rhM) (v0 : Nat) (v1 : Int32) : ∀ a, f_X11_judge Γ M v0 v1 = some a → rhC E 8 yX11_judge cX11_judge 8 (some .int) [rhR v0, rhI v1] Γ M ((rhe1I Γ) a) := rhF.met (by decide +kernel) (Nat.le_of_ble_eq_true rfl) (b_X11_judge M v0 v1)
def f_X11_later (Γ : rhG) (M : rhM) (v0 : Nat) (v1 : Int32) : Option (Int32 × rhM) :=
  if v1 < 0 then
    (some (((-1), M)))
  else
    if 1000 < v1 then
      (some (((-1), M)))
    else
      rhck (Γ.2.2.1 v0 = 12) <|
      if 100000 < ((M.1 v0 16) + v1) then
        (some (((-1), M)))
      else
        let M5 := rhsi M v0 16 ((M.1 v0 16) + v1)
        some ((M5.1 v0 16, M5))
set_option maxHeartbeats 4000000 in
set_option maxRecDepth 100000 in
theorem b_X11_later {E : rhE} {Γ : rhG} : ∀ (M : rhM) (v0 : Nat) (v1 : Int32), rhF E 1 2 yX11_later cX11_later (some .int) Γ (rhe1I Γ) (f_X11_later Γ M v0 v1) 0 [(0, rhR v0), (1, rhI v1)] [] Γ M := by
  intro M v0 v1
  rw [f_X11_later]
  refine rhF.iload_n (pc := 0) dX11_later_0 1 rfl ?_
  refine rhF.if_lt (pc := 1) 23 dX11_later_1 (by decide) (fun h1 => ?_) (fun h1 => ?_)
  · refine rhF.iconst (pc := 23) (v := (-1)) dX11_later_23 (by decide) ?_
    exact rhF.zret (pc := 24) dX11_later_24 rfl rfl rfl
  · refine rhF.iload_n (pc := 4) dX11_later_4 1 rfl ?_
    refine rhF.sipush (pc := 5) (v := 1000) dX11_later_5 (by decide) ?_
    refine rhF.icmp_gt (pc := 8) 23 dX11_later_8 (by decide) (fun h2 => ?_) (fun h2 => ?_)
    · refine rhF.iconst (pc := 23) (v := (-1)) dX11_later_23 (by decide) ?_
      exact rhF.zret (pc := 24) dX11_later_24 rfl rfl rfl
    · refine rhF.aload_n (pc := 11) dX11_later_11 0 rfl ?_
      refine rhF.ck (fun h3 => ?_)
      refine rhF.get (pc := 12) (rhI _) dX11_later_12 fl_X11_281 h3 rfl ?_
      refine rhF.iload_n (pc := 15) dX11_later_15 1 rfl ?_
      refine rhF.iadd (pc := 16) dX11_later_16 ?_
      refine rhF.ldcw (pc := 17) dX11_later_17 k_X11_290 ?_
      refine rhF.icmp_le (pc := 20) 25 dX11_later_20 (by decide) (fun h4 => ?_) (fun h4 => ?_)
      · refine rhF.iconst (pc := 23) (v := (-1)) dX11_later_23 (by decide) ?_
        exact rhF.zret (pc := 24) dX11_later_24 rfl rfl rfl
      · refine rhF.aload_n (pc := 25) dX11_later_25 0 rfl ?_
        refine rhF.dupr (pc := 26) dX11_later_26 ?_
        refine rhF.get (pc := 27) (rhI _) dX11_later_27 fl_X11_281 h3 rfl ?_
        refine rhF.iload_n (pc := 30) dX11_later_30 1 rfl ?_
        refine rhF.iadd (pc := 31) dX11_later_31 ?_
        refine rhF.puti (pc := 32) dX11_later_32 fl_X11_281 h3 (fun q hq => by cases hq; exact Or.inl rfl) ⟨rfl, rfl⟩ (fun _ => rfl) ?_
        refine rhF.aload_n (pc := 35) dX11_later_35 0 rfl ?_
        refine rhF.get (pc := 36) (rhI _) dX11_later_36 fl_X11_281 h3 rfl ?_
        exact rhF.zret (pc := 39) dX11_later_39 rfl rfl rfl
theorem c_X11_later (E : rhE) (Γ : rhG) (M : rhM) (v0 : Nat) (v1 : Int32) : ∀ a, f_X11_later Γ M v0 v1 = some a → rhC E 1 yX11_later cX11_later 2 (some .int) [rhR v0, rhI v1] Γ M ((rhe1I Γ) a) := rhF.met (by decide +kernel) (Nat.le_of_ble_eq_true rfl) (b_X11_later M v0 v1)
def f_X11_lawful (Γ : rhG) (M : rhM) (v0 : Nat) (v1 : Int32) (v2 : Int32) (v3 : Int32) : Option (Int32 × rhM) :=
  rhck (Γ.2.2.1 v0 = 12) <|
  (f_X11_isLawfulFrom Γ M v0 (M.2.2 v0 5) v1 v2 v3).bind fun r2 =>
  if r2.1 = 0 then
    (some ((0, r2.2)))
  else
    some ((1, r2.2))
set_option maxHeartbeats 4000000 in
set_option maxRecDepth 100000 in
theorem b_X11_lawful {E : rhE} {Γ : rhG} : ∀ (M : rhM) (v0 : Nat) (v1 : Int32) (v2 : Int32) (v3 : Int32), rhF E 8 4 yX11_lawful cX11_lawful (some .int) Γ (rhe1I Γ) (f_X11_lawful Γ M v0 v1 v2 v3) 0 [(0, rhR v0), (1, rhI v1), (2, rhI v2), (3, rhI v3)] [] Γ M := by
  intro M v0 v1 v2 v3
  rw [f_X11_lawful]
  refine rhF.aload_n (pc := 0) dX11_lawful_0 0 rfl ?_
  refine rhF.aload_n (pc := 1) dX11_lawful_1 0 rfl ?_
  refine rhF.ck (fun h1 => ?_)
  refine rhF.get (pc := 2) (rhR _) dX11_lawful_2 fl_X11_33 h1 rfl ?_
  refine rhF.iload_n (pc := 5) dX11_lawful_5 1 rfl ?_
  refine rhF.iload_n (pc := 6) dX11_lawful_6 2 rfl ?_
  refine rhF.iload_n (pc := 7) dX11_lawful_7 3 rfl ?_
  refine rhF.callV (pc := 8) (ci := 11) (embc := rhe1I _) [rhR _, rhI _, rhI _, rhI _] dX11_lawful_8 ml_X11_164 mv_X11_isLawfulFrom ⟨_, rfl, rfl⟩ h1 (c_X11_isLawfulFrom _ _ _ _ _ _ _ _) (by decide) (by decide) rfl (Nat.le_of_ble_eq_true rfl) (fun r2 _ => ?_)
  refine rhF.if_eq (pc := 11) 18 dX11_lawful_11 (by decide) (fun h3 => ?_) (fun h3 => ?_)
  · refine rhF.iconst (pc := 18) (v := 0) dX11_lawful_18 (by decide) ?_
    exact rhF.zret (pc := 19) dX11_lawful_19 rfl rfl rfl
  · refine rhF.iconst (pc := 14) (v := 1) dX11_lawful_14 (by decide) ?_
    refine rhF.goto (pc := 15) 19 dX11_lawful_15 (by decide) ?_
    exact rhF.zret (pc := 19) dX11_lawful_19 rfl rfl rfl
theorem c_X11_lawful (E : rhE) (Γ : rhG) (M : rhM) (v0 : Nat) (v1 : Int32) (v2 : Int32) (v3 : Int32) : ∀ a, f_X11_lawful Γ M v0 v1 v2 v3 = some a → rhC E 8 yX11_lawful cX11_lawful 4 (some .int) [rhR v0, rhI v1, rhI v2, rhI v3] Γ M ((rhe1I Γ) a) := rhF.met (by decide +kernel) (Nat.le_of_ble_eq_true rfl) (b_X11_lawful M v0 v1 v2 v3)
def f_X11_least (Γ : rhG) (M : rhM) (v0 : Nat) : Option (Int32 × rhG × rhM) :=
  rhck (Γ.2.2.1 v0 = 12) <|
  rhck (Γ.2.2.1 (M.2.2 v0 9) = 4) <|
  (f_X3_clear Γ M (M.2.2 v0 9)).bind fun r3 =>
  (f_X11_isSpent Γ r3 v0).bind fun r4 =>
  if r4 = 0 then
    ((f_X11_readySearch Γ r3 v0).bind fun r6 =>
    rhck (r6.1.2.2.1 v0 = 12) <|
    rhck (r6.1.2.2.1 (r6.2.2.2 v0 15) = 6) <|
    (f_X5_seekRow r6.1 r6.2 (r6.2.2.2 v0 15) (r6.2.2.1 v0 10) (r6.2.1 v0 11)).bind fun r9 =>
    rhck (r6.1.2.2.1 (r9.2.2 v0 5) = 8) <|
    rhck (r6.1.2.2.1 (r9.2.2 v0 15) = 6) <|
    (f_X5_weigh r6.1 r9 (r9.2.2 v0 15) (r9.2.2 v0 3) (r9.2.1 (r9.2.2 v0 5) 0)).bind fun r12 =>
    let x13 := r12.1
    (f_X11_lay r6.1 r12.2 v0 x13).bind fun r14 =>
    if r14.1 = ((-1)) then
      (some (((-1), r14.2.1, r14.2.2)))
    else
      rhck (r14.2.1.2.2.1 v0 = 12) <|
      rhck (r14.2.1.2.2.1 (r14.2.2.2.2 v0 15) = 6) <|
      (f_X5_weightTo r14.2.1 r14.2.2 (r14.2.2.2.2 v0 15) x13).bind fun r18 =>
      some ((r18, r14.2.1, r14.2.2)))
  else
    some (((-2), Γ, r3))
set_option maxHeartbeats 4000000 in
set_option maxRecDepth 100000 in
theorem b_X11_least {E : rhE} {Γ0 : rhG} : ∀ (Γ : rhG) (M : rhM) (v0 : Nat), rhF E 11 2 yX11_least cX11_least (some .int) Γ0 rhe2I (f_X11_least Γ M v0) 0 [(0, rhR v0)] [] Γ M := by
  intro Γ M v0
  rw [f_X11_least]
  refine rhF.aload_n (pc := 0) dX11_least_0 0 rfl ?_
  refine rhF.ck (fun h1 => ?_)
  refine rhF.get (pc := 1) (rhR _) dX11_least_1 fl_X11_52 h1 rfl ?_
  refine rhF.ck (fun h2 => ?_)
  refine rhF.callV (pc := 4) (ci := 3) (embc := rhe1U _) [] dX11_least_4 ml_X11_95 mv_X3_clear ⟨_, rfl, rfl⟩ h2 (c_X3_clear _ _ _ _) (by decide) (by decide) rfl (Nat.le_of_ble_eq_true rfl) (fun r3 _ => ?_)
  refine rhF.aload_n (pc := 7) dX11_least_7 0 rfl ?_
  refine rhF.callV (pc := 8) (ci := 11) (embc := rhe0I _ _) [] dX11_least_8 ml_X11_221 mv_X11_isSpent ⟨_, rfl, rfl⟩ h1 (c_X11_isSpent _ _ _ _) (by decide) (by decide) rfl (Nat.le_of_ble_eq_true rfl) (fun r4 _ => ?_)
  refine rhF.if_eq (pc := 11) 17 dX11_least_11 (by decide) (fun h5 => ?_) (fun h5 => ?_)
  · refine rhF.aload_n (pc := 17) dX11_least_17 0 rfl ?_
    refine rhF.callV (pc := 18) (ci := 11) (embc := rhe2U) [] dX11_least_18 ml_X11_225 mv_X11_readySearch ⟨_, rfl, rfl⟩ h1 (c_X11_readySearch _ _ _ _) (by decide) (by decide) rfl (Nat.le_of_ble_eq_true rfl) (fun r6 _ => ?_)
    refine rhF.aload_n (pc := 21) dX11_least_21 0 rfl ?_
    refine rhF.ck (fun h7 => ?_)
    refine rhF.get (pc := 22) (rhR _) dX11_least_22 fl_X11_228 h7 rfl ?_
    refine rhF.aload_n (pc := 25) dX11_least_25 0 rfl ?_
    refine rhF.get (pc := 26) (rhJ _) dX11_least_26 fl_X11_98 h7 rfl ?_
    refine rhF.aload_n (pc := 29) dX11_least_29 0 rfl ?_
    refine rhF.get (pc := 30) (rhI _) dX11_least_30 fl_X11_101 h7 rfl ?_
    refine rhF.ck (fun h8 => ?_)
    refine rhF.callV (pc := 33) (ci := 5) (embc := rhe1U _) [rhJ _, rhI _] dX11_least_33 ml_X11_232 mv_X5_seekRow ⟨_, rfl, rfl⟩ h8 (c_X5_seekRow _ _ _ _ _ _) (by decide) (by decide) rfl (Nat.le_of_ble_eq_true rfl) (fun r9 _ => ?_)
    refine rhF.aload_n (pc := 36) dX11_least_36 0 rfl ?_
    refine rhF.get (pc := 37) (rhR _) dX11_least_37 fl_X11_228 h7 rfl ?_
    refine rhF.aload_n (pc := 40) dX11_least_40 0 rfl ?_
    refine rhF.get (pc := 41) (rhR _) dX11_least_41 fl_X11_23 h7 rfl ?_
    refine rhF.aload_n (pc := 44) dX11_least_44 0 rfl ?_
    refine rhF.get (pc := 45) (rhR _) dX11_least_45 fl_X11_33 h7 rfl ?_
    refine rhF.ck (fun h10 => ?_)
    refine rhF.get (pc := 48) (rhJ _) dX11_least_48 fl_X11_207 h10 rfl ?_
    refine rhF.ck (fun h11 => ?_)
    refine rhF.callV (pc := 51) (ci := 5) (embc := rhe1I _) [rhR _, rhJ _] dX11_least_51 ml_X11_246 mv_X5_weigh ⟨_, rfl, rfl⟩ h11 (c_X5_weigh _ _ _ _ _ _) (by decide) (by decide) rfl (Nat.le_of_ble_eq_true rfl) (fun r12 _ => ?_)
    refine rhF.istore_n (pc := 54) (L' := [(1, rhI _), (0, rhR _)]) dX11_least_54 (by decide) rfl ?_
    refine rhF.aload_n (pc := 55) dX11_least_55 1 rfl ?_
    refine rhF.iload_n (pc := 56) dX11_least_56 0 rfl ?_
    refine rhF.callV (pc := 57) (ci := 11) (embc := rhe2I) [rhI _] dX11_least_57 ml_X11_243 mv_X11_lay ⟨_, rfl, rfl⟩ h7 (c_X11_lay _ _ _ _ _) (by decide) (by decide) rfl (Nat.le_of_ble_eq_true rfl) (fun r14 _ => ?_)
    refine rhF.iconst (pc := 60) (v := (-1)) dX11_least_60 (by decide) ?_
    refine rhF.icmp_ne (pc := 61) 68 dX11_least_61 (by decide) (fun h15 => ?_) (fun h15 => ?_)
    · refine rhF.iconst (pc := 64) (v := (-1)) dX11_least_64 (by decide) ?_
      refine rhF.goto (pc := 65) 76 dX11_least_65 (by decide) ?_
      exact rhF.zret (pc := 76) dX11_least_76 rfl rfl rfl
    · refine rhF.aload_n (pc := 68) dX11_least_68 1 rfl ?_
      refine rhF.ck (fun h16 => ?_)
      refine rhF.get (pc := 69) (rhR _) dX11_least_69 fl_X11_228 h16 rfl ?_
      refine rhF.iload_n (pc := 72) dX11_least_72 0 rfl ?_
      refine rhF.ck (fun h17 => ?_)
      refine rhF.callV (pc := 73) (ci := 5) (embc := rhe0I _ _) [rhI _] dX11_least_73 ml_X11_250 mv_X5_weightTo ⟨_, rfl, rfl⟩ h17 (c_X5_weightTo _ _ _ _ _) (by decide) (by decide) rfl (Nat.le_of_ble_eq_true rfl) (fun r18 _ => ?_)
      exact rhF.zret (pc := 76) dX11_least_76 rfl rfl rfl
  · refine rhF.bipush (pc := 14) (v := (-2)) dX11_least_14 (by decide) ?_
    exact rhF.zret (pc := 16) dX11_least_16 rfl rfl rfl
theorem c_X11_least (E : rhE) (Γ : rhG) (M : rhM) (v0 : Nat) : ∀ a, f_X11_least Γ M v0 = some a → rhC E 11 yX11_least cX11_least 2 (some .int) [rhR v0] Γ M (rhe2I a) := rhF.met (by decide +kernel) (Nat.le_of_ble_eq_true rfl) (b_X11_least (Γ0 := Γ) Γ M v0)
def f_X11_lies (Γ : rhG) (M : rhM) (v0 : Nat) (v1 : Int32) : Option (Int32) :=
  if v1 < 0 then
    (some ((-1)))
  else
    rhck (Γ.2.2.1 v0 = 12) <|
    rhck (Γ.2.2.1 (M.2.2 v0 9) = 4) <|
    if v1 < (M.1 (M.2.2 v0 9) 1) then
      (rhck (Γ.2.2.1 (M.2.2 (M.2.2 v0 9) 0) = 15) <|
      rhck (0 ≤ (v1).toInt ∧ (v1).toInt < (Γ.2.2.2 (M.2.2 (M.2.2 v0 9) 0) : Nat)) <|
      some (M.1 (M.2.2 (M.2.2 v0 9) 0) v1.toNatClampNeg))
    else
      some ((-1))
set_option maxHeartbeats 4000000 in
set_option maxRecDepth 100000 in
theorem b_X11_lies {E : rhE} {Γ : rhG} {M : rhM} : ∀ (v0 : Nat) (v1 : Int32), rhF E 1 2 yX11_lies cX11_lies (some .int) Γ (rhe0I Γ M) (f_X11_lies Γ M v0 v1) 0 [(0, rhR v0), (1, rhI v1)] [] Γ M := by
  intro v0 v1
  rw [f_X11_lies]
  refine rhF.iload_n (pc := 0) dX11_lies_0 1 rfl ?_
  refine rhF.if_lt (pc := 1) 15 dX11_lies_1 (by decide) (fun h1 => ?_) (fun h1 => ?_)
  · refine rhF.iconst (pc := 15) (v := (-1)) dX11_lies_15 (by decide) ?_
    refine rhF.goto (pc := 16) 28 dX11_lies_16 (by decide) ?_
    exact rhF.zret (pc := 28) dX11_lies_28 rfl rfl rfl
  · refine rhF.iload_n (pc := 4) dX11_lies_4 1 rfl ?_
    refine rhF.aload_n (pc := 5) dX11_lies_5 0 rfl ?_
    refine rhF.ck (fun h2 => ?_)
    refine rhF.get (pc := 6) (rhR _) dX11_lies_6 fl_X11_52 h2 rfl ?_
    refine rhF.ck (fun h3 => ?_)
    refine rhF.get (pc := 9) (rhI _) dX11_lies_9 fl_X11_184 h3 rfl ?_
    refine rhF.icmp_lt (pc := 12) 19 dX11_lies_12 (by decide) (fun h4 => ?_) (fun h4 => ?_)
    · refine rhF.aload_n (pc := 19) dX11_lies_19 0 rfl ?_
      refine rhF.get (pc := 20) (rhR _) dX11_lies_20 fl_X11_52 h2 rfl ?_
      refine rhF.get (pc := 23) (rhR _) dX11_lies_23 fl_X11_192 h3 rfl ?_
      refine rhF.iload_n (pc := 26) dX11_lies_26 1 rfl ?_
      refine rhF.ck (fun h5 => ?_)
      refine rhF.ck (fun h6 => ?_)
      refine rhF.iald (pc := 27) dX11_lies_27 h5 h6 ?_
      exact rhF.zret (pc := 28) dX11_lies_28 rfl rfl rfl
    · refine rhF.iconst (pc := 15) (v := (-1)) dX11_lies_15 (by decide) ?_
      refine rhF.goto (pc := 16) 28 dX11_lies_16 (by decide) ?_
      exact rhF.zret (pc := 28) dX11_lies_28 rfl rfl rfl
theorem c_X11_lies (E : rhE) (Γ : rhG) (M : rhM) (v0 : Nat) (v1 : Int32) : ∀ a, f_X11_lies Γ M v0 v1 = some a → rhC E 1 yX11_lies cX11_lies 2 (some .int) [rhR v0, rhI v1] Γ M ((rhe0I Γ M) a) := rhF.met (by decide +kernel) (Nat.le_of_ble_eq_true rfl) (b_X11_lies v0 v1)
def f_X11_on (Γ : rhG) (M : rhM) (v0 : Nat) (v1 : Int32) (v2 : Int32) : Option (Int32) :=
  rhck (Γ.2.2.1 v0 = 12) <|
  (f_X11_isRail Γ M v0 v1).bind fun r2 =>
  if r2 = 0 then
    (some ((-1)))
  else
    if v2 < 0 then
      (some ((-1)))
    else
      rhck (Γ.2.2.1 (M.2.2 v0 5) = 8) <|
      (f_X7_count Γ M (M.2.2 v0 5) v1).bind fun r6 =>
      if v2 < r6 then
        ((f_X7_houseAt Γ M (M.2.2 v0 5) v1 v2).bind fun r8 =>
        some r8)
      else
        some ((-1))
set_option maxHeartbeats 4000000 in
set_option maxRecDepth 100000 in
theorem b_X11_on {E : rhE} {Γ : rhG} {M : rhM} : ∀ (v0 : Nat) (v1 : Int32) (v2 : Int32), rhF E 6 3 yX11_on cX11_on (some .int) Γ (rhe0I Γ M) (f_X11_on Γ M v0 v1 v2) 0 [(0, rhR v0), (1, rhI v1), (2, rhI v2)] [] Γ M := by
  intro v0 v1 v2
  rw [f_X11_on]
  refine rhF.aload_n (pc := 0) dX11_on_0 0 rfl ?_
  refine rhF.iload_n (pc := 1) dX11_on_1 1 rfl ?_
  refine rhF.ck (fun h1 => ?_)
  refine rhF.callV (pc := 2) (ci := 11) (embc := rhe0I _ _) [rhI _] dX11_on_2 ml_X11_113 mv_X11_isRail ⟨_, rfl, rfl⟩ h1 (c_X11_isRail _ _ _ _ _) (by decide) (by decide) rfl (Nat.le_of_ble_eq_true rfl) (fun r2 _ => ?_)
  refine rhF.if_eq (pc := 5) 24 dX11_on_5 (by decide) (fun h3 => ?_) (fun h3 => ?_)
  · refine rhF.iconst (pc := 24) (v := (-1)) dX11_on_24 (by decide) ?_
    exact rhF.zret (pc := 25) dX11_on_25 rfl rfl rfl
  · refine rhF.iload_n (pc := 8) dX11_on_8 2 rfl ?_
    refine rhF.if_lt (pc := 9) 24 dX11_on_9 (by decide) (fun h4 => ?_) (fun h4 => ?_)
    · refine rhF.iconst (pc := 24) (v := (-1)) dX11_on_24 (by decide) ?_
      exact rhF.zret (pc := 25) dX11_on_25 rfl rfl rfl
    · refine rhF.iload_n (pc := 12) dX11_on_12 2 rfl ?_
      refine rhF.aload_n (pc := 13) dX11_on_13 0 rfl ?_
      refine rhF.get (pc := 14) (rhR _) dX11_on_14 fl_X11_33 h1 rfl ?_
      refine rhF.iload_n (pc := 17) dX11_on_17 1 rfl ?_
      refine rhF.ck (fun h5 => ?_)
      refine rhF.callV (pc := 18) (ci := 7) (embc := rhe0I _ _) [rhI _] dX11_on_18 ml_X11_117 mv_X7_count ⟨_, rfl, rfl⟩ h5 (c_X7_count _ _ _ _ _) (by decide) (by decide) rfl (Nat.le_of_ble_eq_true rfl) (fun r6 _ => ?_)
      refine rhF.icmp_lt (pc := 21) 26 dX11_on_21 (by decide) (fun h7 => ?_) (fun h7 => ?_)
      · refine rhF.aload_n (pc := 26) dX11_on_26 0 rfl ?_
        refine rhF.get (pc := 27) (rhR _) dX11_on_27 fl_X11_33 h1 rfl ?_
        refine rhF.iload_n (pc := 30) dX11_on_30 1 rfl ?_
        refine rhF.iload_n (pc := 31) dX11_on_31 2 rfl ?_
        refine rhF.callV (pc := 32) (ci := 7) (embc := rhe0I _ _) [rhI _, rhI _] dX11_on_32 ml_X11_121 mv_X7_houseAt ⟨_, rfl, rfl⟩ h5 (c_X7_houseAt _ _ _ _ _ _) (by decide) (by decide) rfl (Nat.le_of_ble_eq_true rfl) (fun r8 _ => ?_)
        exact rhF.zret (pc := 35) dX11_on_35 rfl rfl rfl
      · refine rhF.iconst (pc := 24) (v := (-1)) dX11_on_24 (by decide) ?_
        exact rhF.zret (pc := 25) dX11_on_25 rfl rfl rfl
theorem c_X11_on (E : rhE) (Γ : rhG) (M : rhM) (v0 : Nat) (v1 : Int32) (v2 : Int32) : ∀ a, f_X11_on Γ M v0 v1 v2 = some a → rhC E 6 yX11_on cX11_on 3 (some .int) [rhR v0, rhI v1, rhI v2] Γ M ((rhe0I Γ M) a) := rhF.met (by decide +kernel) (Nat.le_of_ble_eq_true rfl) (b_X11_on v0 v1 v2)
def f_X11_open (Γ : rhG) (M : rhM) (v0 : Nat) : Option (Int32 × rhM) :=
  rhck (Γ.2.2.1 v0 = 12) <|
  let x2 := M.1 v0 11
  let M3 := rhsl M v0 10 ((0 : Int64))
  let M4 := rhsi M3 v0 11 0
  some ((x2, M4))
set_option maxHeartbeats 4000000 in
set_option maxRecDepth 100000 in
theorem b_X11_open {E : rhE} {Γ : rhG} : ∀ (M : rhM) (v0 : Nat), rhF E 1 2 yX11_open cX11_open (some .int) Γ (rhe1I Γ) (f_X11_open Γ M v0) 0 [(0, rhR v0)] [] Γ M := by
  intro M v0
  rw [f_X11_open]
  refine rhF.aload_n (pc := 0) dX11_open_0 0 rfl ?_
  refine rhF.ck (fun h1 => ?_)
  refine rhF.get (pc := 1) (rhI _) dX11_open_1 fl_X11_101 h1 rfl ?_
  refine rhF.istore_n (pc := 4) (L' := [(1, rhI _), (0, rhR _)]) dX11_open_4 (by decide) rfl ?_
  refine rhF.aload_n (pc := 5) dX11_open_5 1 rfl ?_
  refine rhF.lconst (pc := 6) (v := 0) dX11_open_6 (by decide) ?_
  refine rhF.putl (pc := 7) dX11_open_7 fl_X11_98 h1 (fun q hq => by cases hq; exact Or.inl rfl) ⟨rfl, rfl⟩ (fun _ => rfl) ?_
  refine rhF.aload_n (pc := 10) dX11_open_10 1 rfl ?_
  refine rhF.iconst (pc := 11) (v := 0) dX11_open_11 (by decide) ?_
  refine rhF.puti (pc := 12) dX11_open_12 fl_X11_101 h1 (fun q hq => by cases hq; exact Or.inl rfl) ⟨rfl, rfl⟩ (fun _ => rfl) ?_
  refine rhF.iload_n (pc := 15) dX11_open_15 0 rfl ?_
  exact rhF.zret (pc := 16) dX11_open_16 rfl rfl rfl
theorem c_X11_open (E : rhE) (Γ : rhG) (M : rhM) (v0 : Nat) : ∀ a, f_X11_open Γ M v0 = some a → rhC E 1 yX11_open cX11_open 2 (some .int) [rhR v0] Γ M ((rhe1I Γ) a) := rhF.met (by decide +kernel) (Nat.le_of_ble_eq_true rfl) (b_X11_open M v0)
def f_X11_pull (Γ : rhG) (M : rhM) (v0 : Nat) (v1 : Int32) (v2 : Int32) (v3 : Int32) : Option (Int32 × rhM) :=
  rhck (Γ.2.2.1 v0 = 12) <|
  (f_X11_isLawfulFrom Γ M v0 (M.2.2 v0 5) v1 v2 v3).bind fun r2 =>
  if r2.1 = 0 then
    (some (((-1), r2.2)))
  else
    rhck (Γ.2.2.1 (r2.2.2.2 v0 3) = 10) <|
    rhck (Γ.2.2.1 (r2.2.2.2 v0 5) = 8) <|
    (f_X7_last Γ r2.2 (r2.2.2.2 v0 5) v1 v2).bind fun r6 =>
    rhck (Γ.2.2.1 (r2.2.2.2 (r2.2.2.2 v0 3) 8) = 15) <|
    rhck (0 ≤ (r6).toInt ∧ (r6).toInt < (Γ.2.2.2 (r2.2.2.2 (r2.2.2.2 v0 3) 8) : Nat)) <|
    let x9 := r2.2.1 (r2.2.2.2 (r2.2.2.2 v0 3) 8) r6.toNatClampNeg
    (f_X3_code Γ r2.2 v1 v2 v3).bind fun r10 =>
    rhck (Γ.2.2.1 (r2.2.2.2 v0 7) = 4) <|
    (f_X3_add Γ r2.2 (r2.2.2.2 v0 7) r10).bind fun r12 =>
    if r12.1 = 0 then
      (some (((-1), r12.2)))
    else
      rhck (Γ.2.2.1 (r12.2.2.2 v0 7) = 4) <|
      let M15 := rhsi r12.2 (r12.2.2.2 v0 7) 2 ((r12.2.1 (r12.2.2.2 v0 7) 2) + x9)
      rhck (Γ.2.2.1 (r12.2.2.2 v0 5) = 8) <|
      (f_X7_after Γ M15 (r12.2.2.2 v0 5) v1 v2 v3).bind fun r17 =>
      (f_X7_look Γ M15 (r12.2.2.2 v0 5) (r12.2.2.2 v0 3) r17).bind fun r18 =>
      some ((x9, r18))
set_option maxHeartbeats 4000000 in
set_option maxRecDepth 100000 in
theorem b_X11_pull {E : rhE} {Γ : rhG} : ∀ (M : rhM) (v0 : Nat) (v1 : Int32) (v2 : Int32) (v3 : Int32), rhF E 8 5 yX11_pull cX11_pull (some .int) Γ (rhe1I Γ) (f_X11_pull Γ M v0 v1 v2 v3) 0 [(0, rhR v0), (1, rhI v1), (2, rhI v2), (3, rhI v3)] [] Γ M := by
  intro M v0 v1 v2 v3
  rw [f_X11_pull]
  refine rhF.aload_n (pc := 0) dX11_pull_0 0 rfl ?_
  refine rhF.aload_n (pc := 1) dX11_pull_1 0 rfl ?_
  refine rhF.ck (fun h1 => ?_)
  refine rhF.get (pc := 2) (rhR _) dX11_pull_2 fl_X11_33 h1 rfl ?_
  refine rhF.iload_n (pc := 5) dX11_pull_5 1 rfl ?_
  refine rhF.iload_n (pc := 6) dX11_pull_6 2 rfl ?_
  refine rhF.iload_n (pc := 7) dX11_pull_7 3 rfl ?_
  refine rhF.callV (pc := 8) (ci := 11) (embc := rhe1I _) [rhR _, rhI _, rhI _, rhI _] dX11_pull_8 ml_X11_164 mv_X11_isLawfulFrom ⟨_, rfl, rfl⟩ h1 (c_X11_isLawfulFrom _ _ _ _ _ _ _ _) (by decide) (by decide) rfl (Nat.le_of_ble_eq_true rfl) (fun r2 _ => ?_)
  refine rhF.if_ne (pc := 11) 16 dX11_pull_11 (by decide) (fun h3 => ?_) (fun h3 => ?_)
  · refine rhF.iconst (pc := 14) (v := (-1)) dX11_pull_14 (by decide) ?_
    exact rhF.zret (pc := 15) dX11_pull_15 rfl rfl rfl
  · refine rhF.aload_n (pc := 16) dX11_pull_16 0 rfl ?_
    refine rhF.get (pc := 17) (rhR _) dX11_pull_17 fl_X11_23 h1 rfl ?_
    refine rhF.ck (fun h4 => ?_)
    refine rhF.get (pc := 20) (rhR _) dX11_pull_20 fl_X11_167 h4 rfl ?_
    refine rhF.aload_n (pc := 23) dX11_pull_23 0 rfl ?_
    refine rhF.get (pc := 24) (rhR _) dX11_pull_24 fl_X11_33 h1 rfl ?_
    refine rhF.iload_n (pc := 27) dX11_pull_27 1 rfl ?_
    refine rhF.iload_n (pc := 28) dX11_pull_28 2 rfl ?_
    refine rhF.ck (fun h5 => ?_)
    refine rhF.callV (pc := 29) (ci := 7) (embc := rhe0I _ _) [rhI _, rhI _] dX11_pull_29 ml_X11_152 mv_X7_last ⟨_, rfl, rfl⟩ h5 (c_X7_last _ _ _ _ _ _) (by decide) (by decide) rfl (Nat.le_of_ble_eq_true rfl) (fun r6 _ => ?_)
    refine rhF.ck (fun h7 => ?_)
    refine rhF.ck (fun h8 => ?_)
    refine rhF.iald (pc := 32) dX11_pull_32 h7 h8 ?_
    refine rhF.istore (pc := 33) (L' := [(4, rhI _), (0, rhR _), (1, rhI _), (2, rhI _), (3, rhI _)]) dX11_pull_33 (by decide) rfl ?_
    refine rhF.aload_n (pc := 35) dX11_pull_35 1 rfl ?_
    refine rhF.get (pc := 36) (rhR _) dX11_pull_36 fl_X11_45 h1 rfl ?_
    refine rhF.iload_n (pc := 39) dX11_pull_39 2 rfl ?_
    refine rhF.iload_n (pc := 40) dX11_pull_40 3 rfl ?_
    refine rhF.iload_n (pc := 41) dX11_pull_41 4 rfl ?_
    refine rhF.callS (pc := 42) (embc := rhe0I _ _) [rhI _, rhI _, rhI _] dX11_pull_42 ml_X11_170 ms_X3_code (c_X3_code _ _ _ _ _ _) (by decide) (by decide) rfl (Nat.le_of_ble_eq_true rfl) (fun r10 _ => ?_)
    refine rhF.ck (fun h11 => ?_)
    refine rhF.callV (pc := 45) (ci := 3) (embc := rhe1I _) [rhI _] dX11_pull_45 ml_X11_174 mv_X3_add ⟨_, rfl, rfl⟩ h11 (c_X3_add _ _ _ _ _) (by decide) (by decide) rfl (Nat.le_of_ble_eq_true rfl) (fun r12 _ => ?_)
    refine rhF.if_ne (pc := 48) 53 dX11_pull_48 (by decide) (fun h13 => ?_) (fun h13 => ?_)
    · refine rhF.iconst (pc := 51) (v := (-1)) dX11_pull_51 (by decide) ?_
      exact rhF.zret (pc := 52) dX11_pull_52 rfl rfl rfl
    · refine rhF.aload_n (pc := 53) dX11_pull_53 1 rfl ?_
      refine rhF.get (pc := 54) (rhR _) dX11_pull_54 fl_X11_45 h1 rfl ?_
      refine rhF.dupr (pc := 57) dX11_pull_57 ?_
      refine rhF.ck (fun h14 => ?_)
      refine rhF.get (pc := 58) (rhI _) dX11_pull_58 fl_X11_177 h14 rfl ?_
      refine rhF.iload (pc := 61) dX11_pull_61 0 rfl ?_
      refine rhF.iadd (pc := 63) dX11_pull_63 ?_
      refine rhF.puti (pc := 64) dX11_pull_64 fl_X11_177 h14 (fun q hq => by cases hq; exact Or.inl rfl) ⟨rfl, rfl⟩ (fun _ => rfl) ?_
      refine rhF.aload_n (pc := 67) dX11_pull_67 1 rfl ?_
      refine rhF.get (pc := 68) (rhR _) dX11_pull_68 fl_X11_33 h1 rfl ?_
      refine rhF.aload_n (pc := 71) dX11_pull_71 1 rfl ?_
      refine rhF.get (pc := 72) (rhR _) dX11_pull_72 fl_X11_23 h1 rfl ?_
      refine rhF.aload_n (pc := 75) dX11_pull_75 1 rfl ?_
      refine rhF.get (pc := 76) (rhR _) dX11_pull_76 fl_X11_33 h1 rfl ?_
      refine rhF.iload_n (pc := 79) dX11_pull_79 2 rfl ?_
      refine rhF.iload_n (pc := 80) dX11_pull_80 3 rfl ?_
      refine rhF.iload_n (pc := 81) dX11_pull_81 4 rfl ?_
      refine rhF.ck (fun h16 => ?_)
      refine rhF.callV (pc := 82) (ci := 7) (embc := rhe0J _ _) [rhI _, rhI _, rhI _] dX11_pull_82 ml_X11_180 mv_X7_after ⟨_, rfl, rfl⟩ h16 (c_X7_after _ _ _ _ _ _ _) (by decide) (by decide) rfl (Nat.le_of_ble_eq_true rfl) (fun r17 _ => ?_)
      refine rhF.callV (pc := 85) (ci := 7) (embc := rhe1U _) [rhR _, rhJ _] dX11_pull_85 ml_X11_91 mv_X7_look ⟨_, rfl, rfl⟩ h16 (c_X7_look _ _ _ _ _ _) (by decide) (by decide) rfl (Nat.le_of_ble_eq_true rfl) (fun r18 _ => ?_)
      refine rhF.iload (pc := 88) dX11_pull_88 0 rfl ?_
      exact rhF.zret (pc := 90) dX11_pull_90 rfl rfl rfl
theorem c_X11_pull (E : rhE) (Γ : rhG) (M : rhM) (v0 : Nat) (v1 : Int32) (v2 : Int32) (v3 : Int32) : ∀ a, f_X11_pull Γ M v0 v1 v2 v3 = some a → rhC E 8 yX11_pull cX11_pull 5 (some .int) [rhR v0, rhI v1, rhI v2, rhI v3] Γ M ((rhe1I Γ) a) := rhF.met (by decide +kernel) (Nat.le_of_ble_eq_true rfl) (b_X11_pull M v0 v1 v2 v3)
def f_X11_richest (Γ : rhG) (M : rhM) (v0 : Nat) (v1 : Int32) : Option (Int32 × rhG × rhM) :=
  rhck (Γ.2.2.1 v0 = 12) <|
  rhck (Γ.2.2.1 (M.2.2 v0 9) = 4) <|
  (f_X3_clear Γ M (M.2.2 v0 9)).bind fun r3 =>
  if v1 < 0 then
    (some (((-1000000), Γ, r3)))
  else
    if 30 < v1 then
      (some (((-1000000), Γ, r3)))
    else
      (f_X11_isSpent Γ r3 v0).bind fun r6 =>
      if r6 = 0 then
        ((f_X11_readySearch Γ r3 v0).bind fun r8 =>
        rhck (r8.1.2.2.1 v0 = 12) <|
        rhck (r8.1.2.2.1 (r8.2.2.2 v0 15) = 6) <|
        (f_X5_seekWorth r8.1 r8.2 (r8.2.2.2 v0 15)).bind fun r11 =>
        rhck (r8.1.2.2.1 (r11.2.2 v0 5) = 8) <|
        rhck (r8.1.2.2.1 (r11.2.2 v0 15) = 6) <|
        (f_X5_spread r8.1 r11 (r11.2.2 v0 15) (r11.2.2 v0 3) (r11.2.1 (r11.2.2 v0 5) 0) v1).bind fun r14 =>
        (f_X11_lay r8.1 r14.2 v0 r14.1).bind fun r15 =>
        rhck (r15.2.1.2.2.1 v0 = 12) <|
        rhck (r15.2.1.2.2.1 (r15.2.2.2.2 v0 15) = 6) <|
        some ((r15.2.2.1 (r15.2.2.2.2 v0 15) 1, r15.2.1, r15.2.2)))
      else
        some (((-1000000), Γ, r3))
set_option maxHeartbeats 4000000 in
set_option maxRecDepth 100000 in
theorem b_X11_richest {E : rhE} {Γ0 : rhG} : ∀ (Γ : rhG) (M : rhM) (v0 : Nat) (v1 : Int32), rhF E 11 2 yX11_richest cX11_richest (some .int) Γ0 rhe2I (f_X11_richest Γ M v0 v1) 0 [(0, rhR v0), (1, rhI v1)] [] Γ M := by
  intro Γ M v0 v1
  rw [f_X11_richest]
  refine rhF.aload_n (pc := 0) dX11_richest_0 0 rfl ?_
  refine rhF.ck (fun h1 => ?_)
  refine rhF.get (pc := 1) (rhR _) dX11_richest_1 fl_X11_52 h1 rfl ?_
  refine rhF.ck (fun h2 => ?_)
  refine rhF.callV (pc := 4) (ci := 3) (embc := rhe1U _) [] dX11_richest_4 ml_X11_95 mv_X3_clear ⟨_, rfl, rfl⟩ h2 (c_X3_clear _ _ _ _) (by decide) (by decide) rfl (Nat.le_of_ble_eq_true rfl) (fun r3 _ => ?_)
  refine rhF.iload_n (pc := 7) dX11_richest_7 1 rfl ?_
  refine rhF.if_lt (pc := 8) 24 dX11_richest_8 (by decide) (fun h4 => ?_) (fun h4 => ?_)
  · refine rhF.ldc (pc := 24) dX11_richest_24 k_X11_159 ?_
    exact rhF.zret (pc := 26) dX11_richest_26 rfl rfl rfl
  · refine rhF.iload_n (pc := 11) dX11_richest_11 1 rfl ?_
    refine rhF.bipush (pc := 12) (v := 30) dX11_richest_12 (by decide) ?_
    refine rhF.icmp_gt (pc := 14) 24 dX11_richest_14 (by decide) (fun h5 => ?_) (fun h5 => ?_)
    · refine rhF.ldc (pc := 24) dX11_richest_24 k_X11_159 ?_
      exact rhF.zret (pc := 26) dX11_richest_26 rfl rfl rfl
    · refine rhF.aload_n (pc := 17) dX11_richest_17 0 rfl ?_
      refine rhF.callV (pc := 18) (ci := 11) (embc := rhe0I _ _) [] dX11_richest_18 ml_X11_221 mv_X11_isSpent ⟨_, rfl, rfl⟩ h1 (c_X11_isSpent _ _ _ _) (by decide) (by decide) rfl (Nat.le_of_ble_eq_true rfl) (fun r6 _ => ?_)
      refine rhF.if_eq (pc := 21) 27 dX11_richest_21 (by decide) (fun h7 => ?_) (fun h7 => ?_)
      · refine rhF.aload_n (pc := 27) dX11_richest_27 0 rfl ?_
        refine rhF.callV (pc := 28) (ci := 11) (embc := rhe2U) [] dX11_richest_28 ml_X11_225 mv_X11_readySearch ⟨_, rfl, rfl⟩ h1 (c_X11_readySearch _ _ _ _) (by decide) (by decide) rfl (Nat.le_of_ble_eq_true rfl) (fun r8 _ => ?_)
        refine rhF.aload_n (pc := 31) dX11_richest_31 0 rfl ?_
        refine rhF.ck (fun h9 => ?_)
        refine rhF.get (pc := 32) (rhR _) dX11_richest_32 fl_X11_228 h9 rfl ?_
        refine rhF.ck (fun h10 => ?_)
        refine rhF.callV (pc := 35) (ci := 5) (embc := rhe1U _) [] dX11_richest_35 ml_X11_253 mv_X5_seekWorth ⟨_, rfl, rfl⟩ h10 (c_X5_seekWorth _ _ _ _) (by decide) (by decide) rfl (Nat.le_of_ble_eq_true rfl) (fun r11 _ => ?_)
        refine rhF.aload_n (pc := 38) dX11_richest_38 0 rfl ?_
        refine rhF.aload_n (pc := 39) dX11_richest_39 0 rfl ?_
        refine rhF.get (pc := 40) (rhR _) dX11_richest_40 fl_X11_228 h9 rfl ?_
        refine rhF.aload_n (pc := 43) dX11_richest_43 0 rfl ?_
        refine rhF.get (pc := 44) (rhR _) dX11_richest_44 fl_X11_23 h9 rfl ?_
        refine rhF.aload_n (pc := 47) dX11_richest_47 0 rfl ?_
        refine rhF.get (pc := 48) (rhR _) dX11_richest_48 fl_X11_33 h9 rfl ?_
        refine rhF.ck (fun h12 => ?_)
        refine rhF.get (pc := 51) (rhJ _) dX11_richest_51 fl_X11_207 h12 rfl ?_
        refine rhF.iload_n (pc := 54) dX11_richest_54 1 rfl ?_
        refine rhF.ck (fun h13 => ?_)
        refine rhF.callV (pc := 55) (ci := 5) (embc := rhe1I _) [rhR _, rhJ _, rhI _] dX11_richest_55 ml_X11_239 mv_X5_spread ⟨_, rfl, rfl⟩ h13 (c_X5_spread _ _ _ _ _ _ _) (by decide) (by decide) rfl (Nat.le_of_ble_eq_true rfl) (fun r14 _ => ?_)
        refine rhF.callV (pc := 58) (ci := 11) (embc := rhe2I) [rhI _] dX11_richest_58 ml_X11_243 mv_X11_lay ⟨_, rfl, rfl⟩ h9 (c_X11_lay _ _ _ _ _) (by decide) (by decide) rfl (Nat.le_of_ble_eq_true rfl) (fun r15 _ => ?_)
        refine rhF.pop (pc := 61) dX11_richest_61 ?_
        refine rhF.aload_n (pc := 62) dX11_richest_62 0 rfl ?_
        refine rhF.ck (fun h16 => ?_)
        refine rhF.get (pc := 63) (rhR _) dX11_richest_63 fl_X11_228 h16 rfl ?_
        refine rhF.ck (fun h17 => ?_)
        refine rhF.get (pc := 66) (rhI _) dX11_richest_66 fl_X11_256 h17 rfl ?_
        exact rhF.zret (pc := 69) dX11_richest_69 rfl rfl rfl
      · refine rhF.ldc (pc := 24) dX11_richest_24 k_X11_159 ?_
        exact rhF.zret (pc := 26) dX11_richest_26 rfl rfl rfl
theorem c_X11_richest (E : rhE) (Γ : rhG) (M : rhM) (v0 : Nat) (v1 : Int32) : ∀ a, f_X11_richest Γ M v0 v1 = some a → rhC E 11 yX11_richest cX11_richest 2 (some .int) [rhR v0, rhI v1] Γ M (rhe2I a) := rhF.met (by decide +kernel) (Nat.le_of_ble_eq_true rfl) (b_X11_richest (Γ0 := Γ) Γ M v0 v1)
def f_X11_room (Γ : rhG) (M : rhM) (v0 : Nat) (v1 : Int32) : Option (Int32) :=
  rhck (Γ.2.2.1 v0 = 12) <|
  (f_X11_isRail Γ M v0 v1).bind fun r2 =>
  if r2 = 0 then
    (some ((-1)))
  else
    rhck (Γ.2.2.1 (M.2.2 v0 5) = 8) <|
    rhck (Γ.2.2.1 (M.2.2 (M.2.2 v0 5) 4) = 15) <|
    rhck (0 ≤ (v1).toInt ∧ (v1).toInt < (Γ.2.2.2 (M.2.2 (M.2.2 v0 5) 4) : Nat)) <|
    rhck (Γ.2.2.1 (M.2.2 v0 3) = 10) <|
    (f_X9_roomBeside Γ M (M.2.2 v0 3) v1 (M.1 (M.2.2 (M.2.2 v0 5) 4) v1.toNatClampNeg)).bind fun r8 =>
    some r8
set_option maxHeartbeats 4000000 in
set_option maxRecDepth 100000 in
theorem b_X11_room {E : rhE} {Γ : rhG} {M : rhM} : ∀ (v0 : Nat) (v1 : Int32), rhF E 5 2 yX11_room cX11_room (some .int) Γ (rhe0I Γ M) (f_X11_room Γ M v0 v1) 0 [(0, rhR v0), (1, rhI v1)] [] Γ M := by
  intro v0 v1
  rw [f_X11_room]
  refine rhF.aload_n (pc := 0) dX11_room_0 0 rfl ?_
  refine rhF.iload_n (pc := 1) dX11_room_1 1 rfl ?_
  refine rhF.ck (fun h1 => ?_)
  refine rhF.callV (pc := 2) (ci := 11) (embc := rhe0I _ _) [rhI _] dX11_room_2 ml_X11_113 mv_X11_isRail ⟨_, rfl, rfl⟩ h1 (c_X11_isRail _ _ _ _ _) (by decide) (by decide) rfl (Nat.le_of_ble_eq_true rfl) (fun r2 _ => ?_)
  refine rhF.if_eq (pc := 5) 28 dX11_room_5 (by decide) (fun h3 => ?_) (fun h3 => ?_)
  · refine rhF.iconst (pc := 28) (v := (-1)) dX11_room_28 (by decide) ?_
    exact rhF.zret (pc := 29) dX11_room_29 rfl rfl rfl
  · refine rhF.aload_n (pc := 8) dX11_room_8 0 rfl ?_
    refine rhF.get (pc := 9) (rhR _) dX11_room_9 fl_X11_23 h1 rfl ?_
    refine rhF.iload_n (pc := 12) dX11_room_12 1 rfl ?_
    refine rhF.aload_n (pc := 13) dX11_room_13 0 rfl ?_
    refine rhF.get (pc := 14) (rhR _) dX11_room_14 fl_X11_33 h1 rfl ?_
    refine rhF.ck (fun h4 => ?_)
    refine rhF.get (pc := 17) (rhR _) dX11_room_17 fl_X11_134 h4 rfl ?_
    refine rhF.iload_n (pc := 20) dX11_room_20 1 rfl ?_
    refine rhF.ck (fun h5 => ?_)
    refine rhF.ck (fun h6 => ?_)
    refine rhF.iald (pc := 21) dX11_room_21 h5 h6 ?_
    refine rhF.ck (fun h7 => ?_)
    refine rhF.callV (pc := 22) (ci := 9) (embc := rhe0I _ _) [rhI _, rhI _] dX11_room_22 ml_X11_138 mv_X9_roomBeside ⟨_, rfl, rfl⟩ h7 (c_X9_roomBeside _ _ _ _ _ _) (by decide) (by decide) rfl (Nat.le_of_ble_eq_true rfl) (fun r8 _ => ?_)
    refine rhF.goto (pc := 25) 29 dX11_room_25 (by decide) ?_
    exact rhF.zret (pc := 29) dX11_room_29 rfl rfl rfl
theorem c_X11_room (E : rhE) (Γ : rhG) (M : rhM) (v0 : Nat) (v1 : Int32) : ∀ a, f_X11_room Γ M v0 v1 = some a → rhC E 5 yX11_room cX11_room 2 (some .int) [rhR v0, rhI v1] Γ M ((rhe0I Γ M) a) := rhF.met (by decide +kernel) (Nat.le_of_ble_eq_true rfl) (b_X11_room v0 v1)
def f_X11_sight (Γ : rhG) (M : rhM) (v0 : Nat) (v1 : Int32) (v2 : Int32) (v3 : Int32) (v4 : Int32) : Option (Int32 × rhM) :=
  if v1 < 0 then
    (some (((-1), M)))
  else
    if 3 < v1 then
      (some (((-1), M)))
    else
      rhck (Γ.2.2.1 v0 = 12) <|
      (f_X11_isHouse Γ M v0 v2).bind fun r4 =>
      if r4 = 0 then
        (some (((-1), M)))
      else
        (f_X11_isRail Γ M v0 v3).bind fun r6 =>
        if r6 = 0 then
          (some (((-1), M)))
        else
          rhck (Γ.2.2.1 (M.2.2 v0 14) = 7) <|
          (f_X6_add Γ M (M.2.2 v0 14) v1 v2 v3 v4 (M.1 v0 16)).bind fun r9 =>
          some ((r9.1, r9.2))
set_option maxHeartbeats 4000000 in
set_option maxRecDepth 100000 in
theorem b_X11_sight {E : rhE} {Γ : rhG} : ∀ (M : rhM) (v0 : Nat) (v1 : Int32) (v2 : Int32) (v3 : Int32) (v4 : Int32), rhF E 5 5 yX11_sight cX11_sight (some .int) Γ (rhe1I Γ) (f_X11_sight Γ M v0 v1 v2 v3 v4) 0 [(0, rhR v0), (1, rhI v1), (2, rhI v2), (3, rhI v3), (4, rhI v4)] [] Γ M := by
  intro M v0 v1 v2 v3 v4
  rw [f_X11_sight]
  refine rhF.iload_n (pc := 0) dX11_sight_0 1 rfl ?_
  refine rhF.if_lt (pc := 1) 25 dX11_sight_1 (by decide) (fun h1 => ?_) (fun h1 => ?_)
  · refine rhF.iconst (pc := 25) (v := (-1)) dX11_sight_25 (by decide) ?_
    exact rhF.zret (pc := 26) dX11_sight_26 rfl rfl rfl
  · refine rhF.iload_n (pc := 4) dX11_sight_4 1 rfl ?_
    refine rhF.iconst (pc := 5) (v := 3) dX11_sight_5 (by decide) ?_
    refine rhF.icmp_gt (pc := 6) 25 dX11_sight_6 (by decide) (fun h2 => ?_) (fun h2 => ?_)
    · refine rhF.iconst (pc := 25) (v := (-1)) dX11_sight_25 (by decide) ?_
      exact rhF.zret (pc := 26) dX11_sight_26 rfl rfl rfl
    · refine rhF.aload_n (pc := 9) dX11_sight_9 0 rfl ?_
      refine rhF.iload_n (pc := 10) dX11_sight_10 2 rfl ?_
      refine rhF.ck (fun h3 => ?_)
      refine rhF.callV (pc := 11) (ci := 11) (embc := rhe0I _ _) [rhI _] dX11_sight_11 ml_X11_125 mv_X11_isHouse ⟨_, rfl, rfl⟩ h3 (c_X11_isHouse _ _ _ _ _) (by decide) (by decide) rfl (Nat.le_of_ble_eq_true rfl) (fun r4 _ => ?_)
      refine rhF.if_eq (pc := 14) 25 dX11_sight_14 (by decide) (fun h5 => ?_) (fun h5 => ?_)
      · refine rhF.iconst (pc := 25) (v := (-1)) dX11_sight_25 (by decide) ?_
        exact rhF.zret (pc := 26) dX11_sight_26 rfl rfl rfl
      · refine rhF.aload_n (pc := 17) dX11_sight_17 0 rfl ?_
        refine rhF.iload_n (pc := 18) dX11_sight_18 3 rfl ?_
        refine rhF.callV (pc := 19) (ci := 11) (embc := rhe0I _ _) [rhI _] dX11_sight_19 ml_X11_113 mv_X11_isRail ⟨_, rfl, rfl⟩ h3 (c_X11_isRail _ _ _ _ _) (by decide) (by decide) rfl (Nat.le_of_ble_eq_true rfl) (fun r6 _ => ?_)
        refine rhF.if_ne (pc := 22) 27 dX11_sight_22 (by decide) (fun h7 => ?_) (fun h7 => ?_)
        · refine rhF.iconst (pc := 25) (v := (-1)) dX11_sight_25 (by decide) ?_
          exact rhF.zret (pc := 26) dX11_sight_26 rfl rfl rfl
        · refine rhF.aload_n (pc := 27) dX11_sight_27 0 rfl ?_
          refine rhF.get (pc := 28) (rhR _) dX11_sight_28 fl_X11_66 h3 rfl ?_
          refine rhF.iload_n (pc := 31) dX11_sight_31 1 rfl ?_
          refine rhF.iload_n (pc := 32) dX11_sight_32 2 rfl ?_
          refine rhF.iload_n (pc := 33) dX11_sight_33 3 rfl ?_
          refine rhF.iload (pc := 34) dX11_sight_34 4 rfl ?_
          refine rhF.aload_n (pc := 36) dX11_sight_36 0 rfl ?_
          refine rhF.get (pc := 37) (rhI _) dX11_sight_37 fl_X11_281 h3 rfl ?_
          refine rhF.ck (fun h8 => ?_)
          refine rhF.callV (pc := 40) (ci := 6) (embc := rhe1I _) [rhI _, rhI _, rhI _, rhI _, rhI _] dX11_sight_40 ml_X11_284 mv_X6_add ⟨_, rfl, rfl⟩ h8 (c_X6_add _ _ _ _ _ _ _ _ _) (by decide) (by decide) rfl (Nat.le_of_ble_eq_true rfl) (fun r9 _ => ?_)
          exact rhF.zret (pc := 43) dX11_sight_43 rfl rfl rfl
theorem c_X11_sight (E : rhE) (Γ : rhG) (M : rhM) (v0 : Nat) (v1 : Int32) (v2 : Int32) (v3 : Int32) (v4 : Int32) : ∀ a, f_X11_sight Γ M v0 v1 v2 v3 v4 = some a → rhC E 5 yX11_sight cX11_sight 5 (some .int) [rhR v0, rhI v1, rhI v2, rhI v3, rhI v4] Γ M ((rhe1I Γ) a) := rhF.met (by decide +kernel) (Nat.le_of_ble_eq_true rfl) (b_X11_sight M v0 v1 v2 v3 v4)
