def f_X8_readWord_71 (k5 : rhM → Nat → Option (rhM)) (Γ : rhG) (M : rhM) (v0 : Nat) : Option (rhM) :=
  rhck (Γ.2.2.1 v0 = 9) <|
  let M12 := rhsi M v0 3 ((M.1 v0 3) + 1)
  k5 M12 v0
def f_X8_readWord_5 (k84 : rhM → Nat → Option (rhM)) (Γ : rhG) : Nat → rhM → Nat → Option (rhM)
  | 0, _, _ => none
  | n + 1, M, v0 =>
    rhck (Γ.2.2.1 v0 = 9) <|
    if (M.1 v0 3) < (M.1 v0 2) then
      (rhck (Γ.2.2.1 (M.2.2 v0 1) = 14) <|
      rhck (0 ≤ (M.1 v0 3).toInt ∧ (M.1 v0 3).toInt < (Γ.2.2.2 (M.2.2 v0 1) : Nat)) <|
      (f_X8_isLetter Γ M (M.1 (M.2.2 v0 1) (M.1 v0 3).toNatClampNeg)).bind fun r7 =>
      if r7 = 0 then
        (k84 M v0)
      else
        if ((M.1 v0 3) - (M.1 v0 5)) < 8 then
          (let M10 := rhsl M v0 6 ((rhsh (M.2.1 v0 6) 5) ||| (Int32.toInt64 (((M.1 (M.2.2 v0 1) (M.1 v0 3).toNatClampNeg) - 97) + 1)))
          f_X8_readWord_71 (f_X8_readWord_5 k84 Γ n) Γ M10 v0)
        else
          f_X8_readWord_71 (f_X8_readWord_5 k84 Γ n) Γ M v0)
    else
      k84 M v0
def f_X8_readWord_141 (k111 : rhM → Nat → Int32 → Option (rhM)) (Γ : rhG) (M : rhM) (v0 : Nat) (v1 : Int32) : Option (rhM) :=
  let x24 : Int32 := v1 + 1
  k111 M v0 x24
def f_X8_readWord_111 (Γ : rhG) : Nat → rhM → Nat → Int32 → Option (rhM)
  | 0, _, _, _ => none
  | n + 1, M, v0, v1 =>
    if v1 < 18 then
      (rhck (Γ.2.2.1 v0 = 9) <|
      rhck (Γ.2.2.1 (M.2.2 v0 0) = 16) <|
      rhck (0 ≤ (v1).toInt ∧ (v1).toInt < (Γ.2.2.2 (M.2.2 v0 0) : Nat)) <|
      if (M.2.1 (M.2.2 v0 0) v1.toNatClampNeg) = (M.2.1 v0 6) then
        (let M22 := rhsi M v0 4 3
        let M23 := rhsi M22 v0 7 v1
        f_X8_readWord_141 (f_X8_readWord_111 Γ n) Γ M23 v0 v1)
      else
        f_X8_readWord_141 (f_X8_readWord_111 Γ n) Γ M v0 v1)
    else
      some M
def f_X8_readWord_84 (Γ : rhG) (M : rhM) (v0 : Nat) : Option (rhM) :=
  rhck (Γ.2.2.1 v0 = 9) <|
  if 8 < ((M.1 v0 3) - (M.1 v0 5)) then
    (let M15 := rhsi M v0 4 1
    some M15)
  else
    let M16 := rhsi M v0 4 2
    f_X8_readWord_111 Γ rhFU M16 v0 0
def f_X8_readWord (Γ : rhG) (M : rhM) (v0 : Nat) : Option (rhM) :=
  rhck (Γ.2.2.1 v0 = 9) <|
  let M2 := rhsl M v0 6 ((0 : Int64))
  f_X8_readWord_5 (f_X8_readWord_84 Γ) Γ rhFU M2 v0
set_option maxHeartbeats 4000000 in
set_option maxRecDepth 100000 in
theorem b_X8_readWord_71 {E : rhE} {Γ : rhG} {k5 : rhM → Nat → Option (rhM)} (hk5 : ∀ (M : rhM) (v0 : Nat), rhF E 5 2 yX8_readWord cX8_readWord none Γ (rhe1U Γ) (k5 M v0) 5 [(0, rhR v0)] [] Γ M) : ∀ (M : rhM) (v0 : Nat), rhF E 5 2 yX8_readWord cX8_readWord none Γ (rhe1U Γ) (f_X8_readWord_71 k5 Γ M v0) 71 [(0, rhR v0)] [] Γ M := by
  intro M v0
  rw [f_X8_readWord_71]
  refine rhF.aload_n (pc := 71) dX8_readWord_71 0 rfl ?_
  refine rhF.dupr (pc := 72) dX8_readWord_72 ?_
  refine rhF.ck (fun h11 => ?_)
  refine rhF.get (pc := 73) (rhI _) dX8_readWord_73 fl_X8_41 h11 rfl ?_
  refine rhF.iconst (pc := 76) (v := 1) dX8_readWord_76 (by decide) ?_
  refine rhF.iadd (pc := 77) dX8_readWord_77 ?_
  refine rhF.puti (pc := 78) dX8_readWord_78 fl_X8_41 h11 (fun q hq => by cases hq; exact Or.inl rfl) ⟨rfl, rfl⟩ (fun _ => rfl) ?_
  refine rhF.goto (pc := 81) 5 dX8_readWord_81 (by decide) ?_
  exact hk5 _ _
set_option maxHeartbeats 4000000 in
set_option maxRecDepth 100000 in
theorem b_X8_readWord_5 {E : rhE} {Γ : rhG} {k84 : rhM → Nat → Option (rhM)} (hk84 : ∀ (M : rhM) (v0 : Nat), rhF E 5 2 yX8_readWord cX8_readWord none Γ (rhe1U Γ) (k84 M v0) 84 [(0, rhR v0)] [] Γ M) : ∀ (n : Nat) (M : rhM) (v0 : Nat), rhF E 5 2 yX8_readWord cX8_readWord none Γ (rhe1U Γ) (f_X8_readWord_5 k84 Γ n M v0) 5 [(0, rhR v0)] [] Γ M := by
  intro n
  induction n with
  | zero => intro M v0; rw [f_X8_readWord_5]; exact rhF.nope
  | succ n ih =>
    intro M v0
    rw [f_X8_readWord_5]
    refine rhF.aload_n (pc := 5) dX8_readWord_5 0 rfl ?_
    refine rhF.ck (fun h3 => ?_)
    refine rhF.get (pc := 6) (rhI _) dX8_readWord_6 fl_X8_41 h3 rfl ?_
    refine rhF.aload_n (pc := 9) dX8_readWord_9 0 rfl ?_
    refine rhF.get (pc := 10) (rhI _) dX8_readWord_10 fl_X8_37 h3 rfl ?_
    refine rhF.icmp_ge (pc := 13) 84 dX8_readWord_13 (by decide) (fun h4 => ?_) (fun h4 => ?_)
    · refine rhF.aload_n (pc := 16) dX8_readWord_16 0 rfl ?_
      refine rhF.get (pc := 17) (rhR _) dX8_readWord_17 fl_X8_15 h3 rfl ?_
      refine rhF.aload_n (pc := 20) dX8_readWord_20 0 rfl ?_
      refine rhF.get (pc := 21) (rhI _) dX8_readWord_21 fl_X8_41 h3 rfl ?_
      refine rhF.ck (fun h5 => ?_)
      refine rhF.ck (fun h6 => ?_)
      refine rhF.bald (pc := 24) dX8_readWord_24 h5 h6 ?_
      refine rhF.callS (pc := 25) (embc := rhe0I _ _) [rhI _] dX8_readWord_25 ml_X8_59 ms_X8_isLetter (c_X8_isLetter _ _ _ _) (by decide) (by decide) rfl (Nat.le_of_ble_eq_true rfl) (fun r7 _ => ?_)
      refine rhF.if_eq (pc := 28) 84 dX8_readWord_28 (by decide) (fun h8 => ?_) (fun h8 => ?_)
      · exact hk84 _ _
      · refine rhF.aload_n (pc := 31) dX8_readWord_31 0 rfl ?_
        refine rhF.get (pc := 32) (rhI _) dX8_readWord_32 fl_X8_41 h3 rfl ?_
        refine rhF.aload_n (pc := 35) dX8_readWord_35 0 rfl ?_
        refine rhF.get (pc := 36) (rhI _) dX8_readWord_36 fl_X8_53 h3 rfl ?_
        refine rhF.isub (pc := 39) dX8_readWord_39 ?_
        refine rhF.bipush (pc := 40) (v := 8) dX8_readWord_40 (by decide) ?_
        refine rhF.icmp_ge (pc := 42) 71 dX8_readWord_42 (by decide) (fun h9 => ?_) (fun h9 => ?_)
        · refine rhF.aload_n (pc := 45) dX8_readWord_45 0 rfl ?_
          refine rhF.aload_n (pc := 46) dX8_readWord_46 0 rfl ?_
          refine rhF.get (pc := 47) (rhJ _) dX8_readWord_47 fl_X8_75 h3 rfl ?_
          refine rhF.iconst (pc := 50) (v := 5) dX8_readWord_50 (by decide) ?_
          refine rhF.lshl (pc := 51) dX8_readWord_51 ?_
          refine rhF.aload_n (pc := 52) dX8_readWord_52 0 rfl ?_
          refine rhF.get (pc := 53) (rhR _) dX8_readWord_53 fl_X8_15 h3 rfl ?_
          refine rhF.aload_n (pc := 56) dX8_readWord_56 0 rfl ?_
          refine rhF.get (pc := 57) (rhI _) dX8_readWord_57 fl_X8_41 h3 rfl ?_
          refine rhF.bald (pc := 60) dX8_readWord_60 h5 h6 ?_
          refine rhF.bipush (pc := 61) (v := 97) dX8_readWord_61 (by decide) ?_
          refine rhF.isub (pc := 63) dX8_readWord_63 ?_
          refine rhF.iconst (pc := 64) (v := 1) dX8_readWord_64 (by decide) ?_
          refine rhF.iadd (pc := 65) dX8_readWord_65 ?_
          refine rhF.i2l (pc := 66) dX8_readWord_66 ?_
          refine rhF.lor (pc := 67) dX8_readWord_67 ?_
          refine rhF.putl (pc := 68) dX8_readWord_68 fl_X8_75 h3 (fun q hq => by cases hq; exact Or.inl rfl) ⟨rfl, rfl⟩ (fun _ => rfl) ?_
          exact (b_X8_readWord_71 ih) _ _
        · exact (b_X8_readWord_71 ih) _ _
    · exact hk84 _ _
set_option maxHeartbeats 4000000 in
set_option maxRecDepth 100000 in
theorem b_X8_readWord_141 {E : rhE} {Γ : rhG} {k111 : rhM → Nat → Int32 → Option (rhM)} (hk111 : ∀ (M : rhM) (v0 : Nat) (v1 : Int32), rhF E 5 2 yX8_readWord cX8_readWord none Γ (rhe1U Γ) (k111 M v0 v1) 111 [(0, rhR v0), (1, rhI v1)] [] Γ M) : ∀ (M : rhM) (v0 : Nat) (v1 : Int32), rhF E 5 2 yX8_readWord cX8_readWord none Γ (rhe1U Γ) (f_X8_readWord_141 k111 Γ M v0 v1) 141 [(0, rhR v0), (1, rhI v1)] [] Γ M := by
  intro M v0 v1
  rw [f_X8_readWord_141]
  refine rhF.iinc (pc := 141) (L' := [(1, rhI _), (0, rhR _)]) dX8_readWord_141 1 rfl rfl (by decide) rfl ?_
  refine rhF.goto (pc := 144) 111 dX8_readWord_144 (by decide) ?_
  refine rhF.sub [1, 0] rfl ?_
  exact hk111 _ _ _
set_option maxHeartbeats 4000000 in
set_option maxRecDepth 100000 in
theorem b_X8_readWord_111 {E : rhE} {Γ : rhG} : ∀ (n : Nat) (M : rhM) (v0 : Nat) (v1 : Int32), rhF E 5 2 yX8_readWord cX8_readWord none Γ (rhe1U Γ) (f_X8_readWord_111 Γ n M v0 v1) 111 [(0, rhR v0), (1, rhI v1)] [] Γ M := by
  intro n
  induction n with
  | zero => intro M v0 v1; rw [f_X8_readWord_111]; exact rhF.nope
  | succ n ih =>
    intro M v0 v1
    rw [f_X8_readWord_111]
    refine rhF.iload_n (pc := 111) dX8_readWord_111 1 rfl ?_
    refine rhF.bipush (pc := 112) (v := 18) dX8_readWord_112 (by decide) ?_
    refine rhF.icmp_ge (pc := 114) 147 dX8_readWord_114 (by decide) (fun h17 => ?_) (fun h17 => ?_)
    · refine rhF.aload_n (pc := 117) dX8_readWord_117 0 rfl ?_
      refine rhF.ck (fun h18 => ?_)
      refine rhF.get (pc := 118) (rhR _) dX8_readWord_118 fl_X8_11 h18 rfl ?_
      refine rhF.iload_n (pc := 121) dX8_readWord_121 1 rfl ?_
      refine rhF.ck (fun h19 => ?_)
      refine rhF.ck (fun h20 => ?_)
      refine rhF.lald (pc := 122) dX8_readWord_122 h19 h20 ?_
      refine rhF.aload_n (pc := 123) dX8_readWord_123 0 rfl ?_
      refine rhF.get (pc := 124) (rhJ _) dX8_readWord_124 fl_X8_75 h18 rfl ?_
      refine rhF.lcne (pc := 127) 141 dX8_readWord_127 dX8_readWord_128 (by decide) (fun h21 => ?_) (fun h21 => ?_)
      · refine rhF.aload_n (pc := 131) dX8_readWord_131 0 rfl ?_
        refine rhF.iconst (pc := 132) (v := 3) dX8_readWord_132 (by decide) ?_
        refine rhF.puti (pc := 133) dX8_readWord_133 fl_X8_56 h18 (fun q hq => by cases hq; exact Or.inl rfl) ⟨rfl, rfl⟩ (fun _ => rfl) ?_
        refine rhF.aload_n (pc := 136) dX8_readWord_136 0 rfl ?_
        refine rhF.iload_n (pc := 137) dX8_readWord_137 1 rfl ?_
        refine rhF.puti (pc := 138) dX8_readWord_138 fl_X8_47 h18 (fun q hq => by cases hq; exact Or.inl rfl) ⟨rfl, rfl⟩ (fun _ => rfl) ?_
        exact (b_X8_readWord_141 ih) _ _ _
      · exact (b_X8_readWord_141 ih) _ _ _
    · exact rhF.vret (pc := 147) dX8_readWord_147 rfl rfl
set_option maxHeartbeats 4000000 in
set_option maxRecDepth 100000 in
theorem b_X8_readWord_84 {E : rhE} {Γ : rhG} : ∀ (M : rhM) (v0 : Nat), rhF E 5 2 yX8_readWord cX8_readWord none Γ (rhe1U Γ) (f_X8_readWord_84 Γ M v0) 84 [(0, rhR v0)] [] Γ M := by
  intro M v0
  rw [f_X8_readWord_84]
  refine rhF.aload_n (pc := 84) dX8_readWord_84 0 rfl ?_
  refine rhF.ck (fun h13 => ?_)
  refine rhF.get (pc := 85) (rhI _) dX8_readWord_85 fl_X8_41 h13 rfl ?_
  refine rhF.aload_n (pc := 88) dX8_readWord_88 0 rfl ?_
  refine rhF.get (pc := 89) (rhI _) dX8_readWord_89 fl_X8_53 h13 rfl ?_
  refine rhF.isub (pc := 92) dX8_readWord_92 ?_
  refine rhF.bipush (pc := 93) (v := 8) dX8_readWord_93 (by decide) ?_
  refine rhF.icmp_le (pc := 95) 104 dX8_readWord_95 (by decide) (fun h14 => ?_) (fun h14 => ?_)
  · refine rhF.aload_n (pc := 98) dX8_readWord_98 0 rfl ?_
    refine rhF.iconst (pc := 99) (v := 1) dX8_readWord_99 (by decide) ?_
    refine rhF.puti (pc := 100) dX8_readWord_100 fl_X8_56 h13 (fun q hq => by cases hq; exact Or.inl rfl) ⟨rfl, rfl⟩ (fun _ => rfl) ?_
    exact rhF.vret (pc := 103) dX8_readWord_103 rfl rfl
  · refine rhF.aload_n (pc := 104) dX8_readWord_104 0 rfl ?_
    refine rhF.iconst (pc := 105) (v := 2) dX8_readWord_105 (by decide) ?_
    refine rhF.puti (pc := 106) dX8_readWord_106 fl_X8_56 h13 (fun q hq => by cases hq; exact Or.inl rfl) ⟨rfl, rfl⟩ (fun _ => rfl) ?_
    refine rhF.iconst (pc := 109) (v := 0) dX8_readWord_109 (by decide) ?_
    refine rhF.istore_n (pc := 110) (L' := [(1, rhI _), (0, rhR _)]) dX8_readWord_110 (by decide) rfl ?_
    refine rhF.sub [1, 0] rfl ?_
    exact (b_X8_readWord_111 rhFU) _ _ _
set_option maxHeartbeats 4000000 in
set_option maxRecDepth 100000 in
theorem b_X8_readWord {E : rhE} {Γ : rhG} : ∀ (M : rhM) (v0 : Nat), rhF E 5 2 yX8_readWord cX8_readWord none Γ (rhe1U Γ) (f_X8_readWord Γ M v0) 0 [(0, rhR v0)] [] Γ M := by
  intro M v0
  rw [f_X8_readWord]
  refine rhF.aload_n (pc := 0) dX8_readWord_0 0 rfl ?_
  refine rhF.lconst (pc := 1) (v := 0) dX8_readWord_1 (by decide) ?_
  refine rhF.ck (fun h1 => ?_)
  refine rhF.putl (pc := 2) dX8_readWord_2 fl_X8_75 h1 (fun q hq => by cases hq; exact Or.inl rfl) ⟨rfl, rfl⟩ (fun _ => rfl) ?_
  exact (b_X8_readWord_5 (b_X8_readWord_84) rhFU) _ _
theorem c_X8_readWord (E : rhE) (Γ : rhG) (M : rhM) (v0 : Nat) : ∀ a, f_X8_readWord Γ M v0 = some a → rhC E 5 yX8_readWord cX8_readWord 2 none [rhR v0] Γ M ((rhe1U Γ) a) := rhF.met (by decide +kernel) (Nat.le_of_ble_eq_true rfl) (b_X8_readWord M v0)
def f_X8_advance_49 (k10 : rhM → Nat → Option (rhM)) (Γ : rhG) (M : rhM) (v0 : Nat) : Option (rhM) :=
  rhck (Γ.2.2.1 v0 = 9) <|
  let M10 := rhsi M v0 3 ((M.1 v0 3) + 1)
  k10 M10 v0
def f_X8_advance_10 (k62 : rhM → Nat → Option (rhM)) (Γ : rhG) : Nat → rhM → Nat → Option (rhM)
  | 0, _, _ => none
  | n + 1, M, v0 =>
    rhck (Γ.2.2.1 v0 = 9) <|
    if (M.1 v0 3) < (M.1 v0 2) then
      (rhck (Γ.2.2.1 (M.2.2 v0 1) = 14) <|
      rhck (0 ≤ (M.1 v0 3).toInt ∧ (M.1 v0 3).toInt < (Γ.2.2.2 (M.2.2 v0 1) : Nat)) <|
      if (M.1 (M.2.2 v0 1) (M.1 v0 3).toNatClampNeg) = 32 then
        (f_X8_advance_49 (f_X8_advance_10 k62 Γ n) Γ M v0)
      else
        if (M.1 (M.2.2 v0 1) (M.1 v0 3).toNatClampNeg) = 10 then
          (f_X8_advance_49 (f_X8_advance_10 k62 Γ n) Γ M v0)
        else
          k62 M v0)
    else
      k62 M v0
def f_X8_advance_62 (Γ : rhG) (M : rhM) (v0 : Nat) : Option (rhM) :=
  rhck (Γ.2.2.1 v0 = 9) <|
  let M13 := rhsi M v0 5 (M.1 v0 3)
  if (M13.1 v0 3) < (M13.1 v0 2) then
    (rhck (Γ.2.2.1 (M.2.2 v0 1) = 14) <|
    rhck (0 ≤ (M13.1 v0 3).toInt ∧ (M13.1 v0 3).toInt < (Γ.2.2.2 (M.2.2 v0 1) : Nat)) <|
    (f_X8_isLetter Γ M13 (M13.1 (M.2.2 v0 1) (M13.1 v0 3).toNatClampNeg)).bind fun r17 =>
    if r17 = 0 then
      ((f_X8_isDigit Γ M13 (M13.1 (M.2.2 v0 1) (M13.1 v0 3).toNatClampNeg)).bind fun r19 =>
      if r19 = 0 then
        ((f_X8_readSign Γ M13 v0).bind fun r21 =>
        some r21)
      else
        (f_X8_readNumber Γ M13 v0).bind fun r22 =>
        some r22)
    else
      (f_X8_readWord Γ M13 v0).bind fun r23 =>
      some r23)
  else
    let M24 := rhsi M13 v0 4 0
    some M24
def f_X8_advance (Γ : rhG) (M : rhM) (v0 : Nat) : Option (rhM) :=
  rhck (Γ.2.2.1 v0 = 9) <|
  let M2 := rhsi M v0 7 ((-1))
  let M3 := rhsi M2 v0 9 ((-1))
  f_X8_advance_10 (f_X8_advance_62 Γ) Γ rhFU M3 v0
set_option maxHeartbeats 4000000 in
set_option maxRecDepth 100000 in
theorem b_X8_advance_49 {E : rhE} {Γ : rhG} {k10 : rhM → Nat → Option (rhM)} (hk10 : ∀ (M : rhM) (v0 : Nat), rhF E 6 1 yX8_advance cX8_advance none Γ (rhe1U Γ) (k10 M v0) 10 [(0, rhR v0)] [] Γ M) : ∀ (M : rhM) (v0 : Nat), rhF E 6 1 yX8_advance cX8_advance none Γ (rhe1U Γ) (f_X8_advance_49 k10 Γ M v0) 49 [(0, rhR v0)] [] Γ M := by
  intro M v0
  rw [f_X8_advance_49]
  refine rhF.aload_n (pc := 49) dX8_advance_49 0 rfl ?_
  refine rhF.dupr (pc := 50) dX8_advance_50 ?_
  refine rhF.ck (fun h9 => ?_)
  refine rhF.get (pc := 51) (rhI _) dX8_advance_51 fl_X8_41 h9 rfl ?_
  refine rhF.iconst (pc := 54) (v := 1) dX8_advance_54 (by decide) ?_
  refine rhF.iadd (pc := 55) dX8_advance_55 ?_
  refine rhF.puti (pc := 56) dX8_advance_56 fl_X8_41 h9 (fun q hq => by cases hq; exact Or.inl rfl) ⟨rfl, rfl⟩ (fun _ => rfl) ?_
  refine rhF.goto (pc := 59) 10 dX8_advance_59 (by decide) ?_
  exact hk10 _ _
set_option maxHeartbeats 4000000 in
set_option maxRecDepth 100000 in
theorem b_X8_advance_10 {E : rhE} {Γ : rhG} {k62 : rhM → Nat → Option (rhM)} (hk62 : ∀ (M : rhM) (v0 : Nat), rhF E 6 1 yX8_advance cX8_advance none Γ (rhe1U Γ) (k62 M v0) 62 [(0, rhR v0)] [] Γ M) : ∀ (n : Nat) (M : rhM) (v0 : Nat), rhF E 6 1 yX8_advance cX8_advance none Γ (rhe1U Γ) (f_X8_advance_10 k62 Γ n M v0) 10 [(0, rhR v0)] [] Γ M := by
  intro n
  induction n with
  | zero => intro M v0; rw [f_X8_advance_10]; exact rhF.nope
  | succ n ih =>
    intro M v0
    rw [f_X8_advance_10]
    refine rhF.aload_n (pc := 10) dX8_advance_10 0 rfl ?_
    refine rhF.ck (fun h4 => ?_)
    refine rhF.get (pc := 11) (rhI _) dX8_advance_11 fl_X8_41 h4 rfl ?_
    refine rhF.aload_n (pc := 14) dX8_advance_14 0 rfl ?_
    refine rhF.get (pc := 15) (rhI _) dX8_advance_15 fl_X8_37 h4 rfl ?_
    refine rhF.icmp_ge (pc := 18) 62 dX8_advance_18 (by decide) (fun h5 => ?_) (fun h5 => ?_)
    · refine rhF.aload_n (pc := 21) dX8_advance_21 0 rfl ?_
      refine rhF.get (pc := 22) (rhR _) dX8_advance_22 fl_X8_15 h4 rfl ?_
      refine rhF.aload_n (pc := 25) dX8_advance_25 0 rfl ?_
      refine rhF.get (pc := 26) (rhI _) dX8_advance_26 fl_X8_41 h4 rfl ?_
      refine rhF.ck (fun h6 => ?_)
      refine rhF.ck (fun h7 => ?_)
      refine rhF.bald (pc := 29) dX8_advance_29 h6 h7 ?_
      refine rhF.bipush (pc := 30) (v := 32) dX8_advance_30 (by decide) ?_
      refine rhF.icmp_eq (pc := 32) 49 dX8_advance_32 (by decide) (fun h8 => ?_) (fun h8 => ?_)
      · exact (b_X8_advance_49 ih) _ _
      · refine rhF.aload_n (pc := 35) dX8_advance_35 0 rfl ?_
        refine rhF.get (pc := 36) (rhR _) dX8_advance_36 fl_X8_15 h4 rfl ?_
        refine rhF.aload_n (pc := 39) dX8_advance_39 0 rfl ?_
        refine rhF.get (pc := 40) (rhI _) dX8_advance_40 fl_X8_41 h4 rfl ?_
        refine rhF.bald (pc := 43) dX8_advance_43 h6 h7 ?_
        refine rhF.bipush (pc := 44) (v := 10) dX8_advance_44 (by decide) ?_
        refine rhF.icmp_ne (pc := 46) 62 dX8_advance_46 (by decide) (fun h11 => ?_) (fun h11 => ?_)
        · exact (b_X8_advance_49 ih) _ _
        · exact hk62 _ _
    · exact hk62 _ _
set_option maxHeartbeats 4000000 in
set_option maxRecDepth 100000 in
theorem b_X8_advance_62 {E : rhE} {Γ : rhG} : ∀ (M : rhM) (v0 : Nat), rhF E 6 1 yX8_advance cX8_advance none Γ (rhe1U Γ) (f_X8_advance_62 Γ M v0) 62 [(0, rhR v0)] [] Γ M := by
  intro M v0
  rw [f_X8_advance_62]
  refine rhF.aload_n (pc := 62) dX8_advance_62 0 rfl ?_
  refine rhF.aload_n (pc := 63) dX8_advance_63 0 rfl ?_
  refine rhF.ck (fun h12 => ?_)
  refine rhF.get (pc := 64) (rhI _) dX8_advance_64 fl_X8_41 h12 rfl ?_
  refine rhF.puti (pc := 67) dX8_advance_67 fl_X8_53 h12 (fun q hq => by cases hq; exact Or.inl rfl) ⟨rfl, rfl⟩ (fun _ => rfl) ?_
  refine rhF.aload_n (pc := 70) dX8_advance_70 0 rfl ?_
  refine rhF.get (pc := 71) (rhI _) dX8_advance_71 fl_X8_41 h12 rfl ?_
  refine rhF.aload_n (pc := 74) dX8_advance_74 0 rfl ?_
  refine rhF.get (pc := 75) (rhI _) dX8_advance_75 fl_X8_37 h12 rfl ?_
  refine rhF.icmp_lt (pc := 78) 89 dX8_advance_78 (by decide) (fun h14 => ?_) (fun h14 => ?_)
  · refine rhF.aload_n (pc := 89) dX8_advance_89 0 rfl ?_
    refine rhF.get (pc := 90) (rhR _) dX8_advance_90 fl_X8_15 h12 rfl ?_
    refine rhF.aload_n (pc := 93) dX8_advance_93 0 rfl ?_
    refine rhF.get (pc := 94) (rhI _) dX8_advance_94 fl_X8_41 h12 rfl ?_
    refine rhF.ck (fun h15 => ?_)
    refine rhF.ck (fun h16 => ?_)
    refine rhF.bald (pc := 97) dX8_advance_97 h15 h16 ?_
    refine rhF.callS (pc := 98) (embc := rhe0I _ _) [rhI _] dX8_advance_98 ml_X8_59 ms_X8_isLetter (c_X8_isLetter _ _ _ _) (by decide) (by decide) rfl (Nat.le_of_ble_eq_true rfl) (fun r17 _ => ?_)
    refine rhF.if_eq (pc := 101) 111 dX8_advance_101 (by decide) (fun h18 => ?_) (fun h18 => ?_)
    · refine rhF.aload_n (pc := 111) dX8_advance_111 0 rfl ?_
      refine rhF.get (pc := 112) (rhR _) dX8_advance_112 fl_X8_15 h12 rfl ?_
      refine rhF.aload_n (pc := 115) dX8_advance_115 0 rfl ?_
      refine rhF.get (pc := 116) (rhI _) dX8_advance_116 fl_X8_41 h12 rfl ?_
      refine rhF.bald (pc := 119) dX8_advance_119 h15 h16 ?_
      refine rhF.callS (pc := 120) (embc := rhe0I _ _) [rhI _] dX8_advance_120 ml_X8_66 ms_X8_isDigit (c_X8_isDigit _ _ _ _) (by decide) (by decide) rfl (Nat.le_of_ble_eq_true rfl) (fun r19 _ => ?_)
      refine rhF.if_eq (pc := 123) 133 dX8_advance_123 (by decide) (fun h20 => ?_) (fun h20 => ?_)
      · refine rhF.aload_n (pc := 133) dX8_advance_133 0 rfl ?_
        refine rhF.callV (pc := 134) (ci := 8) (embc := rhe1U _) [] dX8_advance_134 ml_X8_72 mv_X8_readSign ⟨_, rfl, rfl⟩ h12 (c_X8_readSign _ _ _ _) (by decide) (by decide) rfl (Nat.le_of_ble_eq_true rfl) (fun r21 _ => ?_)
        exact rhF.vret (pc := 137) dX8_advance_137 rfl rfl
      · refine rhF.aload_n (pc := 126) dX8_advance_126 0 rfl ?_
        refine rhF.callV (pc := 127) (ci := 8) (embc := rhe1U _) [] dX8_advance_127 ml_X8_69 mv_X8_readNumber ⟨_, rfl, rfl⟩ h12 (c_X8_readNumber _ _ _ _) (by decide) (by decide) rfl (Nat.le_of_ble_eq_true rfl) (fun r22 _ => ?_)
        refine rhF.goto (pc := 130) 137 dX8_advance_130 (by decide) ?_
        exact rhF.vret (pc := 137) dX8_advance_137 rfl rfl
    · refine rhF.aload_n (pc := 104) dX8_advance_104 0 rfl ?_
      refine rhF.callV (pc := 105) (ci := 8) (embc := rhe1U _) [] dX8_advance_105 ml_X8_63 mv_X8_readWord ⟨_, rfl, rfl⟩ h12 (c_X8_readWord _ _ _ _) (by decide) (by decide) rfl (Nat.le_of_ble_eq_true rfl) (fun r23 _ => ?_)
      refine rhF.goto (pc := 108) 137 dX8_advance_108 (by decide) ?_
      exact rhF.vret (pc := 137) dX8_advance_137 rfl rfl
  · refine rhF.aload_n (pc := 81) dX8_advance_81 0 rfl ?_
    refine rhF.iconst (pc := 82) (v := 0) dX8_advance_82 (by decide) ?_
    refine rhF.puti (pc := 83) dX8_advance_83 fl_X8_56 h12 (fun q hq => by cases hq; exact Or.inl rfl) ⟨rfl, rfl⟩ (fun _ => rfl) ?_
    refine rhF.goto (pc := 86) 137 dX8_advance_86 (by decide) ?_
    exact rhF.vret (pc := 137) dX8_advance_137 rfl rfl
set_option maxHeartbeats 4000000 in
set_option maxRecDepth 100000 in
theorem b_X8_advance {E : rhE} {Γ : rhG} : ∀ (M : rhM) (v0 : Nat), rhF E 6 1 yX8_advance cX8_advance none Γ (rhe1U Γ) (f_X8_advance Γ M v0) 0 [(0, rhR v0)] [] Γ M := by
  intro M v0
  rw [f_X8_advance]
  refine rhF.aload_n (pc := 0) dX8_advance_0 0 rfl ?_
  refine rhF.iconst (pc := 1) (v := (-1)) dX8_advance_1 (by decide) ?_
  refine rhF.ck (fun h1 => ?_)
  refine rhF.puti (pc := 2) dX8_advance_2 fl_X8_47 h1 (fun q hq => by cases hq; exact Or.inl rfl) ⟨rfl, rfl⟩ (fun _ => rfl) ?_
  refine rhF.aload_n (pc := 5) dX8_advance_5 0 rfl ?_
  refine rhF.iconst (pc := 6) (v := (-1)) dX8_advance_6 (by decide) ?_
  refine rhF.puti (pc := 7) dX8_advance_7 fl_X8_50 h1 (fun q hq => by cases hq; exact Or.inl rfl) ⟨rfl, rfl⟩ (fun _ => rfl) ?_
  exact (b_X8_advance_10 (b_X8_advance_62) rhFU) _ _
theorem c_X8_advance (E : rhE) (Γ : rhG) (M : rhM) (v0 : Nat) : ∀ a, f_X8_advance Γ M v0 = some a → rhC E 6 yX8_advance cX8_advance 1 none [rhR v0] Γ M ((rhe1U Γ) a) := rhF.met (by decide +kernel) (Nat.le_of_ble_eq_true rfl) (b_X8_advance M v0)
def f_X4_advanceUnless (Γ : rhG) (M : rhM) (v0 : Nat) (v1 : Int32) : Option (rhM) :=
  if v1 = 0 then
    (rhck (Γ.2.2.1 v0 = 5) <|
    rhck (Γ.2.2.1 (M.2.2 v0 2) = 9) <|
    (f_X8_advance Γ M (M.2.2 v0 2)).bind fun r4 =>
    some r4)
  else
    rhck (Γ.2.2.1 v0 = 5) <|
    (f_X4_refuse Γ M v0).bind fun r6 =>
    some r6
set_option maxHeartbeats 4000000 in
set_option maxRecDepth 100000 in
theorem b_X4_advanceUnless {E : rhE} {Γ : rhG} : ∀ (M : rhM) (v0 : Nat) (v1 : Int32), rhF E 7 2 yX4_advanceUnless cX4_advanceUnless none Γ (rhe1U Γ) (f_X4_advanceUnless Γ M v0 v1) 0 [(0, rhR v0), (1, rhI v1)] [] Γ M := by
  intro M v0 v1
  rw [f_X4_advanceUnless]
  refine rhF.iload_n (pc := 0) dX4_advanceUnless_0 1 rfl ?_
  refine rhF.if_eq (pc := 1) 11 dX4_advanceUnless_1 (by decide) (fun h1 => ?_) (fun h1 => ?_)
  · refine rhF.aload_n (pc := 11) dX4_advanceUnless_11 0 rfl ?_
    refine rhF.ck (fun h2 => ?_)
    refine rhF.get (pc := 12) (rhR _) dX4_advanceUnless_12 fl_X4_18 h2 rfl ?_
    refine rhF.ck (fun h3 => ?_)
    refine rhF.callV (pc := 15) (ci := 8) (embc := rhe1U _) [] dX4_advanceUnless_15 ml_X4_126 mv_X8_advance ⟨_, rfl, rfl⟩ h3 (c_X8_advance _ _ _ _) (by decide) (by decide) rfl (Nat.le_of_ble_eq_true rfl) (fun r4 _ => ?_)
    exact rhF.vret (pc := 18) dX4_advanceUnless_18 rfl rfl
  · refine rhF.aload_n (pc := 4) dX4_advanceUnless_4 0 rfl ?_
    refine rhF.ck (fun h5 => ?_)
    refine rhF.callV (pc := 5) (ci := 4) (embc := rhe1U _) [] dX4_advanceUnless_5 ml_X4_70 mv_X4_refuse ⟨_, rfl, rfl⟩ h5 (c_X4_refuse _ _ _ _) (by decide) (by decide) rfl (Nat.le_of_ble_eq_true rfl) (fun r6 _ => ?_)
    refine rhF.goto (pc := 8) 18 dX4_advanceUnless_8 (by decide) ?_
    exact rhF.vret (pc := 18) dX4_advanceUnless_18 rfl rfl
theorem c_X4_advanceUnless (E : rhE) (Γ : rhG) (M : rhM) (v0 : Nat) (v1 : Int32) : ∀ a, f_X4_advanceUnless Γ M v0 v1 = some a → rhC E 7 yX4_advanceUnless cX4_advanceUnless 2 none [rhR v0, rhI v1] Γ M ((rhe1U Γ) a) := rhF.met (by decide +kernel) (Nat.le_of_ble_eq_true rfl) (b_X4_advanceUnless M v0 v1)
def f_X9_clear_50 (k79 : rhM → Nat → Option (rhM)) (Γ : rhG) : Nat → rhM → Nat → Int32 → Option (rhM)
  | 0, _, _, _ => none
  | n + 1, M, v0, v1 =>
    rhck (Γ.2.2.1 v0 = 10) <|
    rhck (Γ.2.2.1 (M.2.2 v0 10) = 17) <|
    if v1 < (Int32.ofNat (Γ.2.2.2 (M.2.2 v0 10))) then
      (rhck (Γ.2.2.1 (M.2.2 v0 9) = 15) <|
      rhck (0 ≤ (v1).toInt ∧ (v1).toInt < (Γ.2.2.2 (M.2.2 v0 9) : Nat)) <|
      let M19 := rhsi M (M.2.2 v0 9) (v1 : Int32).toNatClampNeg 0
      rhck (0 ≤ (v1).toInt ∧ (v1).toInt < (Γ.2.2.2 (M.2.2 v0 10) : Nat)) <|
      let M21 := rhsi M19 (M.2.2 v0 10) (v1 : Int32).toNatClampNeg (vp_nar .boolean 0)
      let x22 : Int32 := v1 + 1
      f_X9_clear_50 k79 Γ n M21 v0 x22)
    else
      k79 M v0
def f_X9_clear_79 (Γ : rhG) (M : rhM) (v0 : Nat) : Option (rhM) :=
  rhck (Γ.2.2.1 v0 = 10) <|
  rhck (Γ.2.2.1 (M.2.2 v0 11) = 2) <|
  (f_X1_clear Γ M (M.2.2 v0 11)).bind fun r25 =>
  some r25
def f_X9_clear (Γ : rhG) (M : rhM) (v0 : Nat) : Option (rhM) :=
  rhck (Γ.2.2.1 v0 = 10) <|
  let M2 := rhsi M v0 0 0
  let M3 := rhsi M2 v0 1 0
  let M4 := rhsi M3 v0 2 999
  let M5 := rhsi M4 v0 3 999
  let M6 := rhsi M5 v0 4 0
  let M7 := rhsl M6 v0 5 ((0 : Int64))
  rhck (Γ.2.2.1 (M.2.2 v0 7) = 15) <|
  rhck (0 ≤ (0 : Int32).toInt ∧ (0 : Int32).toInt < (Γ.2.2.2 (M.2.2 v0 7) : Nat)) <|
  let M10 := rhsi M7 (M.2.2 v0 7) (0 : Int32).toNatClampNeg 0
  rhck (Γ.2.2.1 (M.2.2 v0 8) = 15) <|
  rhck (0 ≤ (0 : Int32).toInt ∧ (0 : Int32).toInt < (Γ.2.2.2 (M.2.2 v0 8) : Nat)) <|
  let M13 := rhsi M10 (M.2.2 v0 8) (0 : Int32).toNatClampNeg 0
  f_X9_clear_50 (f_X9_clear_79 Γ) Γ rhFU M13 v0 0
set_option maxHeartbeats 4000000 in
set_option maxRecDepth 100000 in
theorem b_X9_clear_50 {E : rhE} {Γ : rhG} {k79 : rhM → Nat → Option (rhM)} (hk79 : ∀ (M : rhM) (v0 : Nat), rhF E 5 2 yX9_clear cX9_clear none Γ (rhe1U Γ) (k79 M v0) 79 [(0, rhR v0)] [] Γ M) : ∀ (n : Nat) (M : rhM) (v0 : Nat) (v1 : Int32), rhF E 5 2 yX9_clear cX9_clear none Γ (rhe1U Γ) (f_X9_clear_50 k79 Γ n M v0 v1) 50 [(0, rhR v0), (1, rhI v1)] [] Γ M := by
  intro n
  induction n with
  | zero => intro M v0 v1; rw [f_X9_clear_50]; exact rhF.nope
  | succ n ih =>
    intro M v0 v1
    rw [f_X9_clear_50]
    refine rhF.iload_n (pc := 50) dX9_clear_50 1 rfl ?_
    refine rhF.aload_n (pc := 51) dX9_clear_51 0 rfl ?_
    refine rhF.ck (fun h14 => ?_)
    refine rhF.get (pc := 52) (rhR _) dX9_clear_52 fl_X9_24 h14 rfl ?_
    refine rhF.ck (fun h15 => ?_)
    refine rhF.alen17 (pc := 55) dX9_clear_55 h15 ?_
    refine rhF.icmp_ge (pc := 56) 79 dX9_clear_56 (by decide) (fun h16 => ?_) (fun h16 => ?_)
    · refine rhF.aload_n (pc := 59) dX9_clear_59 0 rfl ?_
      refine rhF.get (pc := 60) (rhR _) dX9_clear_60 fl_X9_21 h14 rfl ?_
      refine rhF.iload_n (pc := 63) dX9_clear_63 1 rfl ?_
      refine rhF.iconst (pc := 64) (v := 0) dX9_clear_64 (by decide) ?_
      refine rhF.ck (fun h17 => ?_)
      refine rhF.ck (fun h18 => ?_)
      refine rhF.iast (pc := 65) dX9_clear_65 h17 h18 ?_
      refine rhF.aload_n (pc := 66) dX9_clear_66 0 rfl ?_
      refine rhF.get (pc := 67) (rhR _) dX9_clear_67 fl_X9_24 h14 rfl ?_
      refine rhF.iload_n (pc := 70) dX9_clear_70 1 rfl ?_
      refine rhF.iconst (pc := 71) (v := 0) dX9_clear_71 (by decide) ?_
      refine rhF.ck (fun h20 => ?_)
      refine rhF.zast (pc := 72) dX9_clear_72 h15 h20 ?_
      refine rhF.iinc (pc := 73) (L' := [(1, rhI _), (0, rhR _)]) dX9_clear_73 1 rfl rfl (by decide) rfl ?_
      refine rhF.goto (pc := 76) 50 dX9_clear_76 (by decide) ?_
      refine rhF.sub [1, 0] rfl ?_
      exact ih _ _ _
    · refine rhF.sub [0] rfl ?_
      exact hk79 _ _
set_option maxHeartbeats 4000000 in
set_option maxRecDepth 100000 in
theorem b_X9_clear_79 {E : rhE} {Γ : rhG} : ∀ (M : rhM) (v0 : Nat), rhF E 5 2 yX9_clear cX9_clear none Γ (rhe1U Γ) (f_X9_clear_79 Γ M v0) 79 [(0, rhR v0)] [] Γ M := by
  intro M v0
  rw [f_X9_clear_79]
  refine rhF.aload_n (pc := 79) dX9_clear_79 0 rfl ?_
  refine rhF.ck (fun h23 => ?_)
  refine rhF.get (pc := 80) (rhR _) dX9_clear_80 fl_X9_31 h23 rfl ?_
  refine rhF.ck (fun h24 => ?_)
  refine rhF.callV (pc := 83) (ci := 1) (embc := rhe1U _) [] dX9_clear_83 ml_X9_58 mv_X1_clear ⟨_, rfl, rfl⟩ h24 (c_X1_clear _ _ _ _) (by decide) (by decide) rfl (Nat.le_of_ble_eq_true rfl) (fun r25 _ => ?_)
  exact rhF.vret (pc := 86) dX9_clear_86 rfl rfl
set_option maxHeartbeats 4000000 in
set_option maxRecDepth 100000 in
theorem b_X9_clear {E : rhE} {Γ : rhG} : ∀ (M : rhM) (v0 : Nat), rhF E 5 2 yX9_clear cX9_clear none Γ (rhe1U Γ) (f_X9_clear Γ M v0) 0 [(0, rhR v0)] [] Γ M := by
  intro M v0
  rw [f_X9_clear]
  refine rhF.aload_n (pc := 0) dX9_clear_0 0 rfl ?_
  refine rhF.iconst (pc := 1) (v := 0) dX9_clear_1 (by decide) ?_
  refine rhF.ck (fun h1 => ?_)
  refine rhF.puti (pc := 2) dX9_clear_2 fl_X9_38 h1 (fun q hq => by cases hq; exact Or.inl rfl) ⟨rfl, rfl⟩ (fun _ => rfl) ?_
  refine rhF.aload_n (pc := 5) dX9_clear_5 0 rfl ?_
  refine rhF.iconst (pc := 6) (v := 0) dX9_clear_6 (by decide) ?_
  refine rhF.puti (pc := 7) dX9_clear_7 fl_X9_42 h1 (fun q hq => by cases hq; exact Or.inl rfl) ⟨rfl, rfl⟩ (fun _ => rfl) ?_
  refine rhF.aload_n (pc := 10) dX9_clear_10 0 rfl ?_
  refine rhF.sipush (pc := 11) (v := 999) dX9_clear_11 (by decide) ?_
  refine rhF.puti (pc := 14) dX9_clear_14 fl_X9_45 h1 (fun q hq => by cases hq; exact Or.inl rfl) ⟨rfl, rfl⟩ (fun _ => rfl) ?_
  refine rhF.aload_n (pc := 17) dX9_clear_17 0 rfl ?_
  refine rhF.sipush (pc := 18) (v := 999) dX9_clear_18 (by decide) ?_
  refine rhF.puti (pc := 21) dX9_clear_21 fl_X9_48 h1 (fun q hq => by cases hq; exact Or.inl rfl) ⟨rfl, rfl⟩ (fun _ => rfl) ?_
  refine rhF.aload_n (pc := 24) dX9_clear_24 0 rfl ?_
  refine rhF.iconst (pc := 25) (v := 0) dX9_clear_25 (by decide) ?_
  refine rhF.puti (pc := 26) dX9_clear_26 fl_X9_51 h1 (fun q hq => by cases hq; exact Or.inl rfl) ⟨rfl, rfl⟩ (fun _ => rfl) ?_
  refine rhF.aload_n (pc := 29) dX9_clear_29 0 rfl ?_
  refine rhF.lconst (pc := 30) (v := 0) dX9_clear_30 (by decide) ?_
  refine rhF.putl (pc := 31) dX9_clear_31 fl_X9_54 h1 (fun q hq => by cases hq; exact Or.inl rfl) ⟨rfl, rfl⟩ (fun _ => rfl) ?_
  refine rhF.aload_n (pc := 34) dX9_clear_34 0 rfl ?_
  refine rhF.get (pc := 35) (rhR _) dX9_clear_35 fl_X9_15 h1 rfl ?_
  refine rhF.iconst (pc := 38) (v := 0) dX9_clear_38 (by decide) ?_
  refine rhF.iconst (pc := 39) (v := 0) dX9_clear_39 (by decide) ?_
  refine rhF.ck (fun h8 => ?_)
  refine rhF.ck (fun h9 => ?_)
  refine rhF.iast (pc := 40) dX9_clear_40 h8 h9 ?_
  refine rhF.aload_n (pc := 41) dX9_clear_41 0 rfl ?_
  refine rhF.get (pc := 42) (rhR _) dX9_clear_42 fl_X9_18 h1 rfl ?_
  refine rhF.iconst (pc := 45) (v := 0) dX9_clear_45 (by decide) ?_
  refine rhF.iconst (pc := 46) (v := 0) dX9_clear_46 (by decide) ?_
  refine rhF.ck (fun h11 => ?_)
  refine rhF.ck (fun h12 => ?_)
  refine rhF.iast (pc := 47) dX9_clear_47 h11 h12 ?_
  refine rhF.iconst (pc := 48) (v := 0) dX9_clear_48 (by decide) ?_
  refine rhF.istore_n (pc := 49) (L' := [(1, rhI _), (0, rhR _)]) dX9_clear_49 (by decide) rfl ?_
  refine rhF.sub [1, 0] rfl ?_
  exact (b_X9_clear_50 (b_X9_clear_79) rhFU) _ _ _
theorem c_X9_clear (E : rhE) (Γ : rhG) (M : rhM) (v0 : Nat) : ∀ a, f_X9_clear Γ M v0 = some a → rhC E 5 yX9_clear cX9_clear 2 none [rhR v0] Γ M ((rhe1U Γ) a) := rhF.met (by decide +kernel) (Nat.le_of_ble_eq_true rfl) (b_X9_clear M v0)
def f_X4_begin (Γ : rhG) (M : rhM) (v0 : Nat) (v1 : Nat) : Option (rhM) :=
  rhck (Γ.2.2.1 v0 = 5) <|
  let M2 := rhsr M v0 10 v1
  rhck (Γ.2.2.1 v1 = 10) <|
  let M4 := rhsr M2 v0 11 (M2.2.2 v1 11)
  rhck (Γ.2.2.1 (M4.2.2 v0 10) = 10) <|
  (f_X9_clear Γ M4 (M4.2.2 v0 10)).bind fun r6 =>
  (f_J7_fill_53178 Γ r6 (r6.2.2 v0 6) (0 : Int32)).bind fun r7 =>
  let M8 := rhsi r7 v0 7 0
  let M9 := rhsi M8 v0 8 0
  let M10 := rhsi M9 v0 9 0
  let M11 := rhsi M10 v0 0 0
  let M12 := rhsi M11 v0 1 ((-1))
  some M12
set_option maxHeartbeats 4000000 in
set_option maxRecDepth 100000 in
theorem b_X4_begin {E : rhE} {Γ : rhG} : ∀ (M : rhM) (v0 : Nat) (v1 : Nat), rhF E 6 2 yX4_begin cX4_begin none Γ (rhe1U Γ) (f_X4_begin Γ M v0 v1) 0 [(0, rhR v0), (1, rhR v1)] [] Γ M := by
  intro M v0 v1
  rw [f_X4_begin]
  refine rhF.aload_n (pc := 0) dX4_begin_0 0 rfl ?_
  refine rhF.aload_n (pc := 1) dX4_begin_1 1 rfl ?_
  refine rhF.ck (fun h1 => ?_)
  refine rhF.putr (pc := 2) dX4_begin_2 fl_X4_73 h1 (fun q hq => by cases hq; exact Or.inl rfl) (Or.inl ⟨_, rfl⟩) (fun _ => rfl) ?_
  refine rhF.aload_n (pc := 5) dX4_begin_5 0 rfl ?_
  refine rhF.aload_n (pc := 6) dX4_begin_6 1 rfl ?_
  refine rhF.ck (fun h3 => ?_)
  refine rhF.get (pc := 7) (rhR _) dX4_begin_7 fl_X4_87 h3 rfl ?_
  refine rhF.putr (pc := 10) dX4_begin_10 fl_X4_91 h1 (fun q hq => by cases hq; exact Or.inl rfl) (Or.inl ⟨_, rfl⟩) (fun _ => rfl) ?_
  refine rhF.aload_n (pc := 13) dX4_begin_13 0 rfl ?_
  refine rhF.get (pc := 14) (rhR _) dX4_begin_14 fl_X4_73 h1 rfl ?_
  refine rhF.ck (fun h5 => ?_)
  refine rhF.callV (pc := 17) (ci := 9) (embc := rhe1U _) [] dX4_begin_17 ml_X4_92 mv_X9_clear ⟨_, rfl, rfl⟩ h5 (c_X9_clear _ _ _ _) (by decide) (by decide) rfl (Nat.le_of_ble_eq_true rfl) (fun r6 _ => ?_)
  refine rhF.aload_n (pc := 20) dX4_begin_20 0 rfl ?_
  refine rhF.get (pc := 21) (rhR _) dX4_begin_21 fl_X4_33 h1 rfl ?_
  refine rhF.iconst (pc := 24) (v := 0) dX4_begin_24 (by decide) ?_
  refine rhF.callS (pc := 25) (embc := rhe1U _) [rhR _, rhI _] dX4_begin_25 ml_X4_95 ms_J7_fill_53178 (c_J7_fill_53178 _ _ _ _ _) (by decide) (by decide) rfl (Nat.le_of_ble_eq_true rfl) (fun r7 _ => ?_)
  refine rhF.aload_n (pc := 28) dX4_begin_28 0 rfl ?_
  refine rhF.iconst (pc := 29) (v := 0) dX4_begin_29 (by decide) ?_
  refine rhF.puti (pc := 30) dX4_begin_30 fl_X4_101 h1 (fun q hq => by cases hq; exact Or.inl rfl) ⟨rfl, rfl⟩ (fun _ => rfl) ?_
  refine rhF.aload_n (pc := 33) dX4_begin_33 0 rfl ?_
  refine rhF.iconst (pc := 34) (v := 0) dX4_begin_34 (by decide) ?_
  refine rhF.puti (pc := 35) dX4_begin_35 fl_X4_105 h1 (fun q hq => by cases hq; exact Or.inl rfl) ⟨rfl, rfl⟩ (fun _ => rfl) ?_
  refine rhF.aload_n (pc := 38) dX4_begin_38 0 rfl ?_
  refine rhF.iconst (pc := 39) (v := 0) dX4_begin_39 (by decide) ?_
  refine rhF.puti (pc := 40) dX4_begin_40 fl_X4_108 h1 (fun q hq => by cases hq; exact Or.inl rfl) ⟨rfl, rfl⟩ (fun _ => rfl) ?_
  refine rhF.aload_n (pc := 43) dX4_begin_43 0 rfl ?_
  refine rhF.iconst (pc := 44) (v := 0) dX4_begin_44 (by decide) ?_
  refine rhF.puti (pc := 45) dX4_begin_45 fl_X4_43 h1 (fun q hq => by cases hq; exact Or.inl rfl) ⟨rfl, rfl⟩ (fun _ => rfl) ?_
  refine rhF.aload_n (pc := 48) dX4_begin_48 0 rfl ?_
  refine rhF.iconst (pc := 49) (v := (-1)) dX4_begin_49 (by decide) ?_
  refine rhF.puti (pc := 50) dX4_begin_50 fl_X4_9 h1 (fun q hq => by cases hq; exact Or.inl rfl) ⟨rfl, rfl⟩ (fun _ => rfl) ?_
  exact rhF.vret (pc := 53) dX4_begin_53 rfl rfl
theorem c_X4_begin (E : rhE) (Γ : rhG) (M : rhM) (v0 : Nat) (v1 : Nat) : ∀ a, f_X4_begin Γ M v0 v1 = some a → rhC E 6 yX4_begin cX4_begin 2 none [rhR v0, rhR v1] Γ M ((rhe1U Γ) a) := rhF.met (by decide +kernel) (Nat.le_of_ble_eq_true rfl) (b_X4_begin M v0 v1)
def f_X4_firstWord_77 (k40 : Nat → Int64 → Int32 → Int32 → Int32 → Option (Int64)) (Γ : rhG) (M : rhM) (v0 : Nat) (v1 : Int64) (v3 : Int32) (v4 : Int32) (v5 : Int32) : Option (Int64) :=
  let x16 : Int32 := v5 + 1
  k40 v0 v1 v3 v4 x16
def f_X4_firstWord_40 (k83 : Nat → Int64 → Int32 → Int32 → Option (Int64)) (Γ : rhG) (M : rhM) : Nat → Nat → Int64 → Int32 → Int32 → Int32 → Option (Int64)
  | 0, _, _, _, _, _ => none
  | n + 1, v0, v1, v3, v4, v5 =>
    rhck (Γ.2.2.1 v0 = 5) <|
    rhck (Γ.2.2.1 (M.2.2 v0 10) = 10) <|
    if v5 < (M.1 (M.2.2 v0 10) 1) then
      (rhck (Γ.2.2.1 (M.2.2 v0 5) = 15) <|
      rhck (0 ≤ (v5).toInt ∧ (v5).toInt < (Γ.2.2.2 (M.2.2 v0 5) : Nat)) <|
      if (M.1 (M.2.2 v0 5) v5.toNatClampNeg) = v4 then
        (let x14 := v1 ||| (rhsh (Int32.toInt64 v5) (4 * v3))
        let x15 : Int32 := v3 + 1
        f_X4_firstWord_77 (f_X4_firstWord_40 k83 Γ M n) Γ M v0 x14 x15 v4 v5)
      else
        f_X4_firstWord_77 (f_X4_firstWord_40 k83 Γ M n) Γ M v0 v1 v3 v4 v5)
    else
      k83 v0 v1 v3 v4
def f_X4_firstWord_83 (k7 : Nat → Int64 → Int32 → Int32 → Option (Int64)) (Γ : rhG) (M : rhM) (v0 : Nat) (v1 : Int64) (v3 : Int32) (v4 : Int32) : Option (Int64) :=
  let x17 : Int32 := v4 + 1
  k7 v0 v1 v3 x17
def f_X4_firstWord_37 (k7 : Nat → Int64 → Int32 → Int32 → Option (Int64)) (Γ : rhG) (M : rhM) (v0 : Nat) (v1 : Int64) (v3 : Int32) (v4 : Int32) : Option (Int64) :=
  f_X4_firstWord_40 (f_X4_firstWord_83 k7 Γ M) Γ M rhFU v0 v1 v3 v4 0
def f_X4_firstWord_7 (Γ : rhG) (M : rhM) : Nat → Nat → Int64 → Int32 → Int32 → Option (Int64)
  | 0, _, _, _, _ => none
  | n + 1, v0, v1, v3, v4 =>
    rhck (Γ.2.2.1 v0 = 5) <|
    rhck (Γ.2.2.1 (M.2.2 v0 10) = 10) <|
    if v4 < (M.1 (M.2.2 v0 10) 0) then
      (if 0 < v4 then
        (let x6 := v1 ||| (rhsh ((8 : Int64)) (4 * v3))
        let x7 : Int32 := v3 + 1
        f_X4_firstWord_37 (f_X4_firstWord_7 Γ M n) Γ M v0 x6 x7 v4)
      else
        f_X4_firstWord_37 (f_X4_firstWord_7 Γ M n) Γ M v0 v1 v3 v4)
    else
      some v1
def f_X4_firstWord (Γ : rhG) (M : rhM) (v0 : Nat) : Option (Int64) :=
  let x1 := (0 : Int64)
  f_X4_firstWord_7 Γ M rhFU v0 x1 0 0
set_option maxHeartbeats 4000000 in
set_option maxRecDepth 100000 in
theorem b_X4_firstWord_77 {E : rhE} {Γ : rhG} {M : rhM} {k40 : Nat → Int64 → Int32 → Int32 → Int32 → Option (Int64)} (hk40 : ∀ (v0 : Nat) (v1 : Int64) (v3 : Int32) (v4 : Int32) (v5 : Int32), rhF E 1 6 yX4_firstWord cX4_firstWord (some .long) Γ (rhe0J Γ M) (k40 v0 v1 v3 v4 v5) 40 [(0, rhR v0), (1, rhJ v1), (3, rhI v3), (4, rhI v4), (5, rhI v5)] [] Γ M) : ∀ (v0 : Nat) (v1 : Int64) (v3 : Int32) (v4 : Int32) (v5 : Int32), rhF E 1 6 yX4_firstWord cX4_firstWord (some .long) Γ (rhe0J Γ M) (f_X4_firstWord_77 k40 Γ M v0 v1 v3 v4 v5) 77 [(0, rhR v0), (1, rhJ v1), (3, rhI v3), (4, rhI v4), (5, rhI v5)] [] Γ M := by
  intro v0 v1 v3 v4 v5
  rw [f_X4_firstWord_77]
  refine rhF.iinc (pc := 77) (L' := [(5, rhI _), (0, rhR _), (1, rhJ _), (3, rhI _), (4, rhI _)]) dX4_firstWord_77 4 rfl rfl (by decide) rfl ?_
  refine rhF.goto (pc := 80) 40 dX4_firstWord_80 (by decide) ?_
  refine rhF.sub [1, 2, 3, 4, 0] rfl ?_
  exact hk40 _ _ _ _ _
set_option maxHeartbeats 4000000 in
set_option maxRecDepth 100000 in
theorem b_X4_firstWord_40 {E : rhE} {Γ : rhG} {M : rhM} {k83 : Nat → Int64 → Int32 → Int32 → Option (Int64)} (hk83 : ∀ (v0 : Nat) (v1 : Int64) (v3 : Int32) (v4 : Int32), rhF E 1 6 yX4_firstWord cX4_firstWord (some .long) Γ (rhe0J Γ M) (k83 v0 v1 v3 v4) 83 [(0, rhR v0), (1, rhJ v1), (3, rhI v3), (4, rhI v4)] [] Γ M) : ∀ (n : Nat) (v0 : Nat) (v1 : Int64) (v3 : Int32) (v4 : Int32) (v5 : Int32), rhF E 1 6 yX4_firstWord cX4_firstWord (some .long) Γ (rhe0J Γ M) (f_X4_firstWord_40 k83 Γ M n v0 v1 v3 v4 v5) 40 [(0, rhR v0), (1, rhJ v1), (3, rhI v3), (4, rhI v4), (5, rhI v5)] [] Γ M := by
  intro n
  induction n with
  | zero => intro v0 v1 v3 v4 v5; rw [f_X4_firstWord_40]; exact rhF.nope
  | succ n ih =>
    intro v0 v1 v3 v4 v5
    rw [f_X4_firstWord_40]
    refine rhF.iload (pc := 40) dX4_firstWord_40 4 rfl ?_
    refine rhF.aload_n (pc := 42) dX4_firstWord_42 0 rfl ?_
    refine rhF.ck (fun h8 => ?_)
    refine rhF.get (pc := 43) (rhR _) dX4_firstWord_43 fl_X4_73 h8 rfl ?_
    refine rhF.ck (fun h9 => ?_)
    refine rhF.get (pc := 46) (rhI _) dX4_firstWord_46 fl_X4_118 h9 rfl ?_
    refine rhF.icmp_ge (pc := 49) 83 dX4_firstWord_49 (by decide) (fun h10 => ?_) (fun h10 => ?_)
    · refine rhF.aload_n (pc := 52) dX4_firstWord_52 0 rfl ?_
      refine rhF.get (pc := 53) (rhR _) dX4_firstWord_53 fl_X4_29 h8 rfl ?_
      refine rhF.iload (pc := 56) dX4_firstWord_56 4 rfl ?_
      refine rhF.ck (fun h11 => ?_)
      refine rhF.ck (fun h12 => ?_)
      refine rhF.iald (pc := 58) dX4_firstWord_58 h11 h12 ?_
      refine rhF.iload (pc := 59) dX4_firstWord_59 3 rfl ?_
      refine rhF.icmp_ne (pc := 61) 77 dX4_firstWord_61 (by decide) (fun h13 => ?_) (fun h13 => ?_)
      · refine rhF.lload_n (pc := 64) dX4_firstWord_64 1 rfl ?_
        refine rhF.iload (pc := 65) dX4_firstWord_65 4 rfl ?_
        refine rhF.i2l (pc := 67) dX4_firstWord_67 ?_
        refine rhF.iconst (pc := 68) (v := 4) dX4_firstWord_68 (by decide) ?_
        refine rhF.iload_n (pc := 69) dX4_firstWord_69 2 rfl ?_
        refine rhF.imul (pc := 70) dX4_firstWord_70 ?_
        refine rhF.lshl (pc := 71) dX4_firstWord_71 ?_
        refine rhF.lor (pc := 72) dX4_firstWord_72 ?_
        refine rhF.lstore_n (pc := 73) (L' := [(1, rhJ _), (0, rhR _), (3, rhI _), (4, rhI _), (5, rhI _)]) dX4_firstWord_73 (by decide) rfl ?_
        refine rhF.iinc (pc := 74) (L' := [(3, rhI _), (1, rhJ _), (0, rhR _), (4, rhI _), (5, rhI _)]) dX4_firstWord_74 2 rfl rfl (by decide) rfl ?_
        refine rhF.sub [2, 1, 0, 3, 4] rfl ?_
        exact (b_X4_firstWord_77 ih) _ _ _ _ _
      · exact (b_X4_firstWord_77 ih) _ _ _ _ _
    · refine rhF.sub [0, 1, 2, 3] rfl ?_
      exact hk83 _ _ _ _
set_option maxHeartbeats 4000000 in
set_option maxRecDepth 100000 in
theorem b_X4_firstWord_83 {E : rhE} {Γ : rhG} {M : rhM} {k7 : Nat → Int64 → Int32 → Int32 → Option (Int64)} (hk7 : ∀ (v0 : Nat) (v1 : Int64) (v3 : Int32) (v4 : Int32), rhF E 1 6 yX4_firstWord cX4_firstWord (some .long) Γ (rhe0J Γ M) (k7 v0 v1 v3 v4) 7 [(0, rhR v0), (1, rhJ v1), (3, rhI v3), (4, rhI v4)] [] Γ M) : ∀ (v0 : Nat) (v1 : Int64) (v3 : Int32) (v4 : Int32), rhF E 1 6 yX4_firstWord cX4_firstWord (some .long) Γ (rhe0J Γ M) (f_X4_firstWord_83 k7 Γ M v0 v1 v3 v4) 83 [(0, rhR v0), (1, rhJ v1), (3, rhI v3), (4, rhI v4)] [] Γ M := by
  intro v0 v1 v3 v4
  rw [f_X4_firstWord_83]
  refine rhF.iinc (pc := 83) (L' := [(4, rhI _), (0, rhR _), (1, rhJ _), (3, rhI _)]) dX4_firstWord_83 3 rfl rfl (by decide) rfl ?_
  refine rhF.goto (pc := 86) 7 dX4_firstWord_86 (by decide) ?_
  refine rhF.sub [1, 2, 3, 0] rfl ?_
  exact hk7 _ _ _ _
set_option maxHeartbeats 4000000 in
set_option maxRecDepth 100000 in
theorem b_X4_firstWord_37 {E : rhE} {Γ : rhG} {M : rhM} {k7 : Nat → Int64 → Int32 → Int32 → Option (Int64)} (hk7 : ∀ (v0 : Nat) (v1 : Int64) (v3 : Int32) (v4 : Int32), rhF E 1 6 yX4_firstWord cX4_firstWord (some .long) Γ (rhe0J Γ M) (k7 v0 v1 v3 v4) 7 [(0, rhR v0), (1, rhJ v1), (3, rhI v3), (4, rhI v4)] [] Γ M) : ∀ (v0 : Nat) (v1 : Int64) (v3 : Int32) (v4 : Int32), rhF E 1 6 yX4_firstWord cX4_firstWord (some .long) Γ (rhe0J Γ M) (f_X4_firstWord_37 k7 Γ M v0 v1 v3 v4) 37 [(0, rhR v0), (1, rhJ v1), (3, rhI v3), (4, rhI v4)] [] Γ M := by
  intro v0 v1 v3 v4
  rw [f_X4_firstWord_37]
  refine rhF.iconst (pc := 37) (v := 0) dX4_firstWord_37 (by decide) ?_
  refine rhF.istore (pc := 38) (L' := [(5, rhI _), (0, rhR _), (1, rhJ _), (3, rhI _), (4, rhI _)]) dX4_firstWord_38 (by decide) rfl ?_
  refine rhF.sub [1, 2, 3, 4, 0] rfl ?_
  exact (b_X4_firstWord_40 (b_X4_firstWord_83 hk7) rhFU) _ _ _ _ _
set_option maxHeartbeats 4000000 in
set_option maxRecDepth 100000 in
theorem b_X4_firstWord_7 {E : rhE} {Γ : rhG} {M : rhM} : ∀ (n : Nat) (v0 : Nat) (v1 : Int64) (v3 : Int32) (v4 : Int32), rhF E 1 6 yX4_firstWord cX4_firstWord (some .long) Γ (rhe0J Γ M) (f_X4_firstWord_7 Γ M n v0 v1 v3 v4) 7 [(0, rhR v0), (1, rhJ v1), (3, rhI v3), (4, rhI v4)] [] Γ M := by
  intro n
  induction n with
  | zero => intro v0 v1 v3 v4; rw [f_X4_firstWord_7]; exact rhF.nope
  | succ n ih =>
    intro v0 v1 v3 v4
    rw [f_X4_firstWord_7]
    refine rhF.iload (pc := 7) dX4_firstWord_7 3 rfl ?_
    refine rhF.aload_n (pc := 9) dX4_firstWord_9 0 rfl ?_
    refine rhF.ck (fun h2 => ?_)
    refine rhF.get (pc := 10) (rhR _) dX4_firstWord_10 fl_X4_73 h2 rfl ?_
    refine rhF.ck (fun h3 => ?_)
    refine rhF.get (pc := 13) (rhI _) dX4_firstWord_13 fl_X4_111 h3 rfl ?_
    refine rhF.icmp_ge (pc := 16) 89 dX4_firstWord_16 (by decide) (fun h4 => ?_) (fun h4 => ?_)
    · refine rhF.iload (pc := 19) dX4_firstWord_19 3 rfl ?_
      refine rhF.if_le (pc := 21) 37 dX4_firstWord_21 (by decide) (fun h5 => ?_) (fun h5 => ?_)
      · refine rhF.lload_n (pc := 24) dX4_firstWord_24 1 rfl ?_
        refine rhF.ldc2 (pc := 25) dX4_firstWord_25 k_X4_116 ?_
        refine rhF.iconst (pc := 28) (v := 4) dX4_firstWord_28 (by decide) ?_
        refine rhF.iload_n (pc := 29) dX4_firstWord_29 2 rfl ?_
        refine rhF.imul (pc := 30) dX4_firstWord_30 ?_
        refine rhF.lshl (pc := 31) dX4_firstWord_31 ?_
        refine rhF.lor (pc := 32) dX4_firstWord_32 ?_
        refine rhF.lstore_n (pc := 33) (L' := [(1, rhJ _), (0, rhR _), (3, rhI _), (4, rhI _)]) dX4_firstWord_33 (by decide) rfl ?_
        refine rhF.iinc (pc := 34) (L' := [(3, rhI _), (1, rhJ _), (0, rhR _), (4, rhI _)]) dX4_firstWord_34 2 rfl rfl (by decide) rfl ?_
        refine rhF.sub [2, 1, 0, 3] rfl ?_
        exact (b_X4_firstWord_37 ih) _ _ _ _
      · exact (b_X4_firstWord_37 ih) _ _ _ _
    · refine rhF.lload_n (pc := 89) dX4_firstWord_89 1 rfl ?_
      exact rhF.lret (pc := 90) dX4_firstWord_90 rfl rfl
set_option maxHeartbeats 4000000 in
set_option maxRecDepth 100000 in
theorem b_X4_firstWord {E : rhE} {Γ : rhG} {M : rhM} : ∀ (v0 : Nat), rhF E 1 6 yX4_firstWord cX4_firstWord (some .long) Γ (rhe0J Γ M) (f_X4_firstWord Γ M v0) 0 [(0, rhR v0)] [] Γ M := by
  intro v0
  rw [f_X4_firstWord]
  refine rhF.lconst (pc := 0) (v := 0) dX4_firstWord_0 (by decide) ?_
  refine rhF.lstore_n (pc := 1) (L' := [(1, rhJ _), (0, rhR _)]) dX4_firstWord_1 (by decide) rfl ?_
  refine rhF.iconst (pc := 2) (v := 0) dX4_firstWord_2 (by decide) ?_
  refine rhF.istore_n (pc := 3) (L' := [(3, rhI _), (1, rhJ _), (0, rhR _)]) dX4_firstWord_3 (by decide) rfl ?_
  refine rhF.iconst (pc := 4) (v := 0) dX4_firstWord_4 (by decide) ?_
  refine rhF.istore (pc := 5) (L' := [(4, rhI _), (3, rhI _), (1, rhJ _), (0, rhR _)]) dX4_firstWord_5 (by decide) rfl ?_
  refine rhF.sub [3, 2, 1, 0] rfl ?_
  exact (b_X4_firstWord_7 rhFU) _ _ _ _
theorem c_X4_firstWord (E : rhE) (Γ : rhG) (M : rhM) (v0 : Nat) : ∀ a, f_X4_firstWord Γ M v0 = some a → rhC E 1 yX4_firstWord cX4_firstWord 6 (some .long) [rhR v0] Γ M ((rhe0J Γ M) a) := rhF.met (by decide +kernel) (Nat.le_of_ble_eq_true rfl) (b_X4_firstWord v0)
def f_X8_init_79 (k23 : rhG → rhM → Nat → Int32 → Int32 → Option (rhG × rhM)) (Γ : rhG) (M : rhM) (v0 : Nat) (v1 : Int32) (v2 : Int32) : Option (rhG × rhM) :=
  let x18 : Int32 := v2 + 1
  k23 Γ M v0 v1 x18
def f_X8_init_23 : Nat → rhG → rhM → Nat → Int32 → Int32 → Option (rhG × rhM)
  | 0, _, _, _, _, _ => none
  | n + 1, Γ, M, v0, v1, v2 =>
    if v2 < (Int32.ofNat rhby0.length) then
      (if v1 < 18 then
        (rhck (0 ≤ (v2).toInt ∧ (v2).toInt < (rhby0.length : Nat)) <|
        let x15 := rhby0.getD v2.toNatClampNeg 0
        if x15 = 32 then
          (let x17 : Int32 := v1 + 1
          f_X8_init_79 (f_X8_init_23 n) Γ M v0 x17 v2)
        else
          rhck (Γ.2.2.1 v0 = 9) <|
          rhck (Γ.2.2.1 (M.2.2 v0 0) = 16) <|
          rhck (0 ≤ (v1).toInt ∧ (v1).toInt < (Γ.2.2.2 (M.2.2 v0 0) : Nat)) <|
          let M22 := rhsl M (M.2.2 v0 0) (v1 : Int32).toNatClampNeg ((rhsh (M.2.1 (M.2.2 v0 0) v1.toNatClampNeg) 5) ||| (Int32.toInt64 ((x15 - 97) + 1)))
          f_X8_init_79 (f_X8_init_23 n) Γ M22 v0 v1 v2)
      else
        some (Γ, M))
    else
      some (Γ, M)
def f_X8_init (Γ : rhG) (M : rhM) (v0 : Nat) : Option (rhG × rhM) :=
  rhck (Γ.2.2.1 v0 = 9) <|
  rhck (0 ≤ (18 : Int32).toInt ∧ (18 : Int32).toInt ≤ 67108864) <|
  let M4 := rhmn M (nu (Γ.1 + 1))
  let G3 := rhgn Γ 16 (18 : Int32).toNatClampNeg (18 : Int32).toNatClampNeg
  rhck (G3.2.2.1 v0 = 9) <|
  let M6 := rhsr M4 v0 0 ((nu (Γ.1 + 1)))
  rhck (0 ≤ (0 : Int32).toInt ∧ (0 : Int32).toInt ≤ 67108864) <|
  let M9 := rhmn M6 (nu (G3.1 + 1))
  let G8 := rhgn G3 14 (0 : Int32).toNatClampNeg (0 : Int32).toNatClampNeg
  rhck (G8.2.2.1 v0 = 9) <|
  let M11 := rhsr M9 v0 1 ((nu (G3.1 + 1)))
  f_X8_init_23 rhFU G8 M11 v0 0 0
set_option maxHeartbeats 4000000 in
set_option maxRecDepth 100000 in
theorem b_X8_init_79 {E : rhE} {Γ0 : rhG} {k23 : rhG → rhM → Nat → Int32 → Int32 → Option (rhG × rhM)} (hk23 : ∀ (Γ : rhG) (M : rhM) (v0 : Nat) (v1 : Int32) (v2 : Int32), rhF E 5 4 yX8_init cX8_init none Γ0 rhe2U (k23 Γ M v0 v1 v2) 23 [(0, rhR v0), (1, rhI v1), (2, rhI v2)] [] Γ M) : ∀ (Γ : rhG) (M : rhM) (v0 : Nat) (v1 : Int32) (v2 : Int32), rhF E 5 4 yX8_init cX8_init none Γ0 rhe2U (f_X8_init_79 k23 Γ M v0 v1 v2) 79 [(0, rhR v0), (1, rhI v1), (2, rhI v2)] [] Γ M := by
  intro Γ M v0 v1 v2
  rw [f_X8_init_79]
  refine rhF.iinc (pc := 79) (L' := [(2, rhI _), (0, rhR _), (1, rhI _)]) dX8_init_79 2 rfl rfl (by decide) rfl ?_
  refine rhF.goto (pc := 82) 23 dX8_init_82 (by decide) ?_
  refine rhF.sub [1, 2, 0] rfl ?_
  exact hk23 _ _ _ _ _
set_option maxHeartbeats 4000000 in
set_option maxRecDepth 100000 in
theorem b_X8_init_23 {E : rhE} {Γ0 : rhG} : ∀ (n : Nat) (Γ : rhG) (M : rhM) (v0 : Nat) (v1 : Int32) (v2 : Int32), rhF E 5 4 yX8_init cX8_init none Γ0 rhe2U (f_X8_init_23 n Γ M v0 v1 v2) 23 [(0, rhR v0), (1, rhI v1), (2, rhI v2)] [] Γ M := by
  intro n
  induction n with
  | zero => intro Γ M v0 v1 v2; rw [f_X8_init_23]; exact rhF.nope
  | succ n ih =>
    intro Γ M v0 v1 v2
    rw [f_X8_init_23]
    refine rhF.iload_n (pc := 23) dX8_init_23 2 rfl ?_
    refine rhF.strlen19 (pc := 24) rfl (by decide) (Nat.le_of_ble_eq_true rfl) dX8_init_24 dX8_init_26 ml_X8_21 ?_
    refine rhF.icmp_ge (pc := 29) 85 dX8_init_29 (by decide) (fun h12 => ?_) (fun h12 => ?_)
    · refine rhF.iload_n (pc := 32) dX8_init_32 1 rfl ?_
      refine rhF.bipush (pc := 33) (v := 18) dX8_init_33 (by decide) ?_
      refine rhF.icmp_ge (pc := 35) 85 dX8_init_35 (by decide) (fun h13 => ?_) (fun h13 => ?_)
      · refine rhF.ck (fun h14 => ?_)
        refine rhF.strchar19 (pc := 38) rfl (by decide) (Nat.le_of_ble_eq_true rfl) dX8_init_38 dX8_init_40 2 rfl dX8_init_41 ml_X8_27 h14 ?_
        refine rhF.istore_n (pc := 44) (L' := [(3, rhI _), (0, rhR _), (1, rhI _), (2, rhI _)]) dX8_init_44 (by decide) rfl ?_
        refine rhF.iload_n (pc := 45) dX8_init_45 0 rfl ?_
        refine rhF.bipush (pc := 46) (v := 32) dX8_init_46 (by decide) ?_
        refine rhF.icmp_ne (pc := 48) 57 dX8_init_48 (by decide) (fun h16 => ?_) (fun h16 => ?_)
        · refine rhF.iinc (pc := 51) (L' := [(1, rhI _), (3, rhI _), (0, rhR _), (2, rhI _)]) dX8_init_51 2 rfl rfl (by decide) rfl ?_
          refine rhF.goto (pc := 54) 79 dX8_init_54 (by decide) ?_
          refine rhF.sub [2, 0, 3] rfl ?_
          exact (b_X8_init_79 ih) _ _ _ _ _
        · refine rhF.aload_n (pc := 57) dX8_init_57 1 rfl ?_
          refine rhF.ck (fun h19 => ?_)
          refine rhF.get (pc := 58) (rhR _) dX8_init_58 fl_X8_11 h19 rfl ?_
          refine rhF.iload_n (pc := 61) dX8_init_61 2 rfl ?_
          refine rhF.aload_n (pc := 62) dX8_init_62 1 rfl ?_
          refine rhF.get (pc := 63) (rhR _) dX8_init_63 fl_X8_11 h19 rfl ?_
          refine rhF.iload_n (pc := 66) dX8_init_66 2 rfl ?_
          refine rhF.ck (fun h20 => ?_)
          refine rhF.ck (fun h21 => ?_)
          refine rhF.lald (pc := 67) dX8_init_67 h20 h21 ?_
          refine rhF.iconst (pc := 68) (v := 5) dX8_init_68 (by decide) ?_
          refine rhF.lshl (pc := 69) dX8_init_69 ?_
          refine rhF.iload_n (pc := 70) dX8_init_70 0 rfl ?_
          refine rhF.bipush (pc := 71) (v := 97) dX8_init_71 (by decide) ?_
          refine rhF.isub (pc := 73) dX8_init_73 ?_
          refine rhF.iconst (pc := 74) (v := 1) dX8_init_74 (by decide) ?_
          refine rhF.iadd (pc := 75) dX8_init_75 ?_
          refine rhF.i2l (pc := 76) dX8_init_76 ?_
          refine rhF.lor (pc := 77) dX8_init_77 ?_
          refine rhF.last (pc := 78) dX8_init_78 h20 h21 ?_
          refine rhF.sub [1, 2, 3] rfl ?_
          exact (b_X8_init_79 ih) _ _ _ _ _
      · exact rhF.vret (pc := 85) dX8_init_85 rfl rfl
    · exact rhF.vret (pc := 85) dX8_init_85 rfl rfl
set_option maxHeartbeats 4000000 in
set_option maxRecDepth 100000 in
theorem b_X8_init {E : rhE} {Γ0 : rhG} : ∀ (Γ : rhG) (M : rhM) (v0 : Nat), rhF E 5 4 yX8_init cX8_init none Γ0 rhe2U (f_X8_init Γ M v0) 0 [(0, rhR v0)] [] Γ M := by
  intro Γ M v0
  rw [f_X8_init]
  refine rhF.aload_n (pc := 0) dX8_init_0 0 rfl ?_
  refine rhF.ck (fun h1 => ?_)
  refine rhF.objInit (pc := 1) dX8_init_1 oi_X8_3 (fun z => absurd (h1.symm.trans z) (by decide)) (by decide) (Nat.le_of_ble_eq_true rfl) ?_
  refine rhF.aload_n (pc := 4) dX8_init_4 0 rfl ?_
  refine rhF.bipush (pc := 5) (v := 18) dX8_init_5 (by decide) ?_
  refine rhF.ck (fun h2 => ?_)
  refine rhF.newJ (pc := 7) dX8_init_7 ac_long h2 ?_
  refine rhF.ck (fun h5 => ?_)
  refine rhF.putr (pc := 9) dX8_init_9 fl_X8_11 h5 (fun q hq => by cases hq; exact Or.inr ⟨rfl, rfl, rfl⟩) (Or.inr ⟨_, rfl⟩) (fun _ => rfl) ?_
  refine rhF.aload_n (pc := 12) dX8_init_12 0 rfl ?_
  refine rhF.iconst (pc := 13) (v := 0) dX8_init_13 (by decide) ?_
  refine rhF.ck (fun h7 => ?_)
  refine rhF.newB (pc := 14) dX8_init_14 ac_byte h7 ?_
  refine rhF.ck (fun h10 => ?_)
  refine rhF.putr (pc := 16) dX8_init_16 fl_X8_15 h10 (fun q hq => by cases hq; exact Or.inl rfl) (Or.inr ⟨_, rfl⟩) (fun _ => rfl) ?_
  refine rhF.iconst (pc := 19) (v := 0) dX8_init_19 (by decide) ?_
  refine rhF.istore_n (pc := 20) (L' := [(1, rhI _), (0, rhR _)]) dX8_init_20 (by decide) rfl ?_
  refine rhF.iconst (pc := 21) (v := 0) dX8_init_21 (by decide) ?_
  refine rhF.istore_n (pc := 22) (L' := [(2, rhI _), (1, rhI _), (0, rhR _)]) dX8_init_22 (by decide) rfl ?_
  refine rhF.sub [2, 1, 0] rfl ?_
  exact (b_X8_init_23 rhFU) _ _ _ _ _
theorem c_X8_init (E : rhE) (Γ : rhG) (M : rhM) (v0 : Nat) : ∀ a, f_X8_init Γ M v0 = some a → rhC E 5 yX8_init cX8_init 4 none [rhR v0] Γ M (rhe2U a) := rhF.met (by decide +kernel) (Nat.le_of_ble_eq_true rfl) (b_X8_init (Γ0 := Γ) Γ M v0)
def f_X4_init (Γ : rhG) (M : rhM) (v0 : Nat) : Option (rhG × rhM) :=
  rhck (Γ.2.2.1 v0 = 5) <|
  let M2 := rhsi M v0 1 ((-1))
  let M4 := rhmn M2 (nu (Γ.1 + 1))
  let G3 := rhgn Γ 9 0 10
  rhck (G3.2.2.1 ((nu (Γ.1 + 1))) = 9) <|
  (f_X8_init G3 M4 ((nu (Γ.1 + 1)))).bind fun r6 =>
  rhck (r6.1.2.2.1 v0 = 5) <|
  let M8 := rhsr r6.2 v0 2 ((nu (Γ.1 + 1)))
  rhck (0 ≤ (5 : Int32).toInt ∧ (5 : Int32).toInt ≤ 67108864) <|
  let M11 := rhmn M8 (nu (r6.1.1 + 1))
  let G10 := rhgn r6.1 16 (5 : Int32).toNatClampNeg (5 : Int32).toNatClampNeg
  rhck (G10.2.2.1 v0 = 5) <|
  let M13 := rhsr M11 v0 3 ((nu (r6.1.1 + 1)))
  rhck (0 ≤ (8 : Int32).toInt ∧ (8 : Int32).toInt ≤ 67108864) <|
  let M16 := rhmn M13 (nu (G10.1 + 1))
  let G15 := rhgn G10 16 (8 : Int32).toNatClampNeg (8 : Int32).toNatClampNeg
  rhck (G15.2.2.1 v0 = 5) <|
  let M18 := rhsr M16 v0 4 ((nu (G10.1 + 1)))
  rhck (0 ≤ (8 : Int32).toInt ∧ (8 : Int32).toInt ≤ 67108864) <|
  let M21 := rhmn M18 (nu (G15.1 + 1))
  let G20 := rhgn G15 15 (8 : Int32).toNatClampNeg (8 : Int32).toNatClampNeg
  rhck (G20.2.2.1 v0 = 5) <|
  let M23 := rhsr M21 v0 5 ((nu (G15.1 + 1)))
  rhck (0 ≤ (5 : Int32).toInt ∧ (5 : Int32).toInt ≤ 67108864) <|
  let M26 := rhmn M23 (nu (G20.1 + 1))
  let G25 := rhgn G20 15 (5 : Int32).toNatClampNeg (5 : Int32).toNatClampNeg
  rhck (G25.2.2.1 v0 = 5) <|
  let M28 := rhsr M26 v0 6 ((nu (G20.1 + 1)))
  some (G25, M28)
set_option maxHeartbeats 4000000 in
set_option maxRecDepth 100000 in
theorem b_X4_init {E : rhE} {Γ0 : rhG} : ∀ (Γ : rhG) (M : rhM) (v0 : Nat), rhF E 6 1 yX4_init cX4_init none Γ0 rhe2U (f_X4_init Γ M v0) 0 [(0, rhR v0)] [] Γ M := by
  intro Γ M v0
  rw [f_X4_init]
  refine rhF.aload_n (pc := 0) dX4_init_0 0 rfl ?_
  refine rhF.ck (fun h1 => ?_)
  refine rhF.objInit (pc := 1) dX4_init_1 oi_X4_3 (fun z => absurd (h1.symm.trans z) (by decide)) (by decide) (Nat.le_of_ble_eq_true rfl) ?_
  refine rhF.aload_n (pc := 4) dX4_init_4 0 rfl ?_
  refine rhF.iconst (pc := 5) (v := (-1)) dX4_init_5 (by decide) ?_
  refine rhF.puti (pc := 6) dX4_init_6 fl_X4_9 h1 (fun q hq => by cases hq; exact Or.inl rfl) ⟨rfl, rfl⟩ (fun _ => rfl) ?_
  refine rhF.aload_n (pc := 9) dX4_init_9 0 rfl ?_
  refine rhF.new (pc := 10) (ci := 8) dX4_init_10 nw_X4_15 ?_
  refine rhF.dupr (pc := 13) dX4_init_13 ?_
  refine rhF.ck (fun h5 => ?_)
  refine rhF.callI (pc := 14) (embc := rhe2U) [] dX4_init_14 ml_X4_17 mi_X8_init (fun z => absurd (h5.symm.trans z) (by decide)) (c_X8_init _ _ _ _) (by decide) (by decide) rfl (Nat.le_of_ble_eq_true rfl) (fun r6 _ => ?_)
  refine rhF.ck (fun h7 => ?_)
  refine rhF.putr (pc := 17) dX4_init_17 fl_X4_18 h7 (fun q hq => by cases hq; exact Or.inr ⟨rfl, rfl, rfl⟩) (Or.inl ⟨_, rfl⟩) (fun _ => rfl) ?_
  refine rhF.aload_n (pc := 20) dX4_init_20 0 rfl ?_
  refine rhF.iconst (pc := 21) (v := 5) dX4_init_21 (by decide) ?_
  refine rhF.ck (fun h9 => ?_)
  refine rhF.newJ (pc := 22) dX4_init_22 ac_long h9 ?_
  refine rhF.ck (fun h12 => ?_)
  refine rhF.putr (pc := 24) dX4_init_24 fl_X4_22 h12 (fun q hq => by cases hq; exact Or.inr ⟨rfl, rfl, rfl⟩) (Or.inr ⟨_, rfl⟩) (fun _ => rfl) ?_
  refine rhF.aload_n (pc := 27) dX4_init_27 0 rfl ?_
  refine rhF.bipush (pc := 28) (v := 8) dX4_init_28 (by decide) ?_
  refine rhF.ck (fun h14 => ?_)
  refine rhF.newJ (pc := 30) dX4_init_30 ac_long h14 ?_
  refine rhF.ck (fun h17 => ?_)
  refine rhF.putr (pc := 32) dX4_init_32 fl_X4_26 h17 (fun q hq => by cases hq; exact Or.inr ⟨rfl, rfl, rfl⟩) (Or.inr ⟨_, rfl⟩) (fun _ => rfl) ?_
  refine rhF.aload_n (pc := 35) dX4_init_35 0 rfl ?_
  refine rhF.bipush (pc := 36) (v := 8) dX4_init_36 (by decide) ?_
  refine rhF.ck (fun h19 => ?_)
  refine rhF.newI (pc := 38) dX4_init_38 ac_int h19 ?_
  refine rhF.ck (fun h22 => ?_)
  refine rhF.putr (pc := 40) dX4_init_40 fl_X4_29 h22 (fun q hq => by cases hq; exact Or.inr ⟨rfl, rfl, rfl⟩) (Or.inr ⟨_, rfl⟩) (fun _ => rfl) ?_
  refine rhF.aload_n (pc := 43) dX4_init_43 0 rfl ?_
  refine rhF.iconst (pc := 44) (v := 5) dX4_init_44 (by decide) ?_
  refine rhF.ck (fun h24 => ?_)
  refine rhF.newI (pc := 45) dX4_init_45 ac_int h24 ?_
  refine rhF.ck (fun h27 => ?_)
  refine rhF.putr (pc := 47) dX4_init_47 fl_X4_33 h27 (fun q hq => by cases hq; exact Or.inr ⟨rfl, rfl, rfl⟩) (Or.inr ⟨_, rfl⟩) (fun _ => rfl) ?_
  exact rhF.vret (pc := 50) dX4_init_50 rfl rfl
theorem c_X4_init (E : rhE) (Γ : rhG) (M : rhM) (v0 : Nat) : ∀ a, f_X4_init Γ M v0 = some a → rhC E 6 yX4_init cX4_init 1 none [rhR v0] Γ M (rhe2U a) := rhF.met (by decide +kernel) (Nat.le_of_ble_eq_true rfl) (b_X4_init (Γ0 := Γ) Γ M v0)
def f_X4_numberOf_3 (Γ : rhG) (M : rhM) : Nat → Int64 → Nat → Int32 → Int32 → Option (Int32)
  | 0, _, _, _, _ => none
  | n + 1, v0, v2, v3, v4 =>
    if v4 < v3 then
      (rhck (Γ.2.2.1 v2 = 16) <|
      if v4 < (Int32.ofNat (Γ.2.2.2 v2)) then
        (rhck (0 ≤ (v4).toInt ∧ (v4).toInt < (Γ.2.2.2 v2 : Nat)) <|
        if (M.2.1 v2 v4.toNatClampNeg) = v0 then
          (some v4)
        else
          let x6 : Int32 := v4 + 1
          f_X4_numberOf_3 Γ M n v0 v2 v3 x6)
      else
        some ((-1)))
    else
      some ((-1))
def f_X4_numberOf (Γ : rhG) (M : rhM) (v0 : Int64) (v2 : Nat) (v3 : Int32) : Option (Int32) :=
  f_X4_numberOf_3 Γ M rhFU v0 v2 v3 0
set_option maxHeartbeats 4000000 in
set_option maxRecDepth 100000 in
theorem b_X4_numberOf_3 {E : rhE} {Γ : rhG} {M : rhM} : ∀ (n : Nat) (v0 : Int64) (v2 : Nat) (v3 : Int32) (v4 : Int32), rhF E 1 5 yX4_numberOf cX4_numberOf (some .int) Γ (rhe0I Γ M) (f_X4_numberOf_3 Γ M n v0 v2 v3 v4) 3 [(0, rhJ v0), (2, rhR v2), (3, rhI v3), (4, rhI v4)] [] Γ M := by
  intro n
  induction n with
  | zero => intro v0 v2 v3 v4; rw [f_X4_numberOf_3]; exact rhF.nope
  | succ n ih =>
    intro v0 v2 v3 v4
    rw [f_X4_numberOf_3]
    refine rhF.iload (pc := 3) dX4_numberOf_3 3 rfl ?_
    refine rhF.iload_n (pc := 5) dX4_numberOf_5 2 rfl ?_
    refine rhF.icmp_ge (pc := 6) 34 dX4_numberOf_6 (by decide) (fun h1 => ?_) (fun h1 => ?_)
    · refine rhF.iload (pc := 9) dX4_numberOf_9 3 rfl ?_
      refine rhF.aload_n (pc := 11) dX4_numberOf_11 1 rfl ?_
      refine rhF.ck (fun h2 => ?_)
      refine rhF.alen16 (pc := 12) dX4_numberOf_12 h2 ?_
      refine rhF.icmp_ge (pc := 13) 34 dX4_numberOf_13 (by decide) (fun h3 => ?_) (fun h3 => ?_)
      · refine rhF.aload_n (pc := 16) dX4_numberOf_16 1 rfl ?_
        refine rhF.iload (pc := 17) dX4_numberOf_17 3 rfl ?_
        refine rhF.ck (fun h4 => ?_)
        refine rhF.lald (pc := 19) dX4_numberOf_19 h2 h4 ?_
        refine rhF.lload_n (pc := 20) dX4_numberOf_20 0 rfl ?_
        refine rhF.lcne (pc := 21) 28 dX4_numberOf_21 dX4_numberOf_22 (by decide) (fun h5 => ?_) (fun h5 => ?_)
        · refine rhF.iload (pc := 25) dX4_numberOf_25 3 rfl ?_
          exact rhF.zret (pc := 27) dX4_numberOf_27 rfl rfl rfl
        · refine rhF.iinc (pc := 28) (L' := [(4, rhI _), (0, rhJ _), (2, rhR _), (3, rhI _)]) dX4_numberOf_28 3 rfl rfl (by decide) rfl ?_
          refine rhF.goto (pc := 31) 3 dX4_numberOf_31 (by decide) ?_
          refine rhF.sub [1, 2, 3, 0] rfl ?_
          exact ih _ _ _ _
      · refine rhF.iconst (pc := 34) (v := (-1)) dX4_numberOf_34 (by decide) ?_
        exact rhF.zret (pc := 35) dX4_numberOf_35 rfl rfl rfl
    · refine rhF.iconst (pc := 34) (v := (-1)) dX4_numberOf_34 (by decide) ?_
      exact rhF.zret (pc := 35) dX4_numberOf_35 rfl rfl rfl
set_option maxHeartbeats 4000000 in
set_option maxRecDepth 100000 in
theorem b_X4_numberOf {E : rhE} {Γ : rhG} {M : rhM} : ∀ (v0 : Int64) (v2 : Nat) (v3 : Int32), rhF E 1 5 yX4_numberOf cX4_numberOf (some .int) Γ (rhe0I Γ M) (f_X4_numberOf Γ M v0 v2 v3) 0 [(0, rhJ v0), (2, rhR v2), (3, rhI v3)] [] Γ M := by
  intro v0 v2 v3
  rw [f_X4_numberOf]
  refine rhF.iconst (pc := 0) (v := 0) dX4_numberOf_0 (by decide) ?_
  refine rhF.istore (pc := 1) (L' := [(4, rhI _), (0, rhJ _), (2, rhR _), (3, rhI _)]) dX4_numberOf_1 (by decide) rfl ?_
  refine rhF.sub [1, 2, 3, 0] rfl ?_
  exact (b_X4_numberOf_3 rhFU) _ _ _ _
theorem c_X4_numberOf (E : rhE) (Γ : rhG) (M : rhM) (v0 : Int64) (v2 : Nat) (v3 : Int32) : ∀ a, f_X4_numberOf Γ M v0 v2 v3 = some a → rhC E 1 yX4_numberOf cX4_numberOf 5 (some .int) [rhJ v0, rhR v2, rhI v3] Γ M ((rhe0I Γ M) a) := rhF.met (by decide +kernel) (Nat.le_of_ble_eq_true rfl) (b_X4_numberOf v0 v2 v3)
def f_X4_takeSign_28 (Γ : rhG) (M : rhM) (v0 : Nat) : Option (rhM) :=
  rhck (Γ.2.2.1 v0 = 5) <|
  (f_X4_refuse Γ M v0).bind fun r7 =>
  some r7
def f_X4_takeSign (Γ : rhG) (M : rhM) (v0 : Nat) (v1 : Int32) : Option (rhM) :=
  rhck (Γ.2.2.1 v0 = 5) <|
  if (M.1 v0 0) = 0 then
    (rhck (Γ.2.2.1 (M.2.2 v0 2) = 9) <|
    if (M.1 (M.2.2 v0 2) 9) = v1 then
      ((f_X8_advance Γ M (M.2.2 v0 2)).bind fun r5 =>
      some r5)
    else
      f_X4_takeSign_28 Γ M v0)
  else
    f_X4_takeSign_28 Γ M v0
set_option maxHeartbeats 4000000 in
set_option maxRecDepth 100000 in
theorem b_X4_takeSign_28 {E : rhE} {Γ : rhG} : ∀ (M : rhM) (v0 : Nat), rhF E 7 2 yX4_takeSign cX4_takeSign none Γ (rhe1U Γ) (f_X4_takeSign_28 Γ M v0) 28 [(0, rhR v0)] [] Γ M := by
  intro M v0
  rw [f_X4_takeSign_28]
  refine rhF.aload_n (pc := 28) dX4_takeSign_28 0 rfl ?_
  refine rhF.ck (fun h6 => ?_)
  refine rhF.callV (pc := 29) (ci := 4) (embc := rhe1U _) [] dX4_takeSign_29 ml_X4_70 mv_X4_refuse ⟨_, rfl, rfl⟩ h6 (c_X4_refuse _ _ _ _) (by decide) (by decide) rfl (Nat.le_of_ble_eq_true rfl) (fun r7 _ => ?_)
  exact rhF.vret (pc := 32) dX4_takeSign_32 rfl rfl
set_option maxHeartbeats 4000000 in
set_option maxRecDepth 100000 in
theorem b_X4_takeSign {E : rhE} {Γ : rhG} : ∀ (M : rhM) (v0 : Nat) (v1 : Int32), rhF E 7 2 yX4_takeSign cX4_takeSign none Γ (rhe1U Γ) (f_X4_takeSign Γ M v0 v1) 0 [(0, rhR v0), (1, rhI v1)] [] Γ M := by
  intro M v0 v1
  rw [f_X4_takeSign]
  refine rhF.aload_n (pc := 0) dX4_takeSign_0 0 rfl ?_
  refine rhF.ck (fun h1 => ?_)
  refine rhF.get (pc := 1) (rhI _) dX4_takeSign_1 fl_X4_43 h1 rfl ?_
  refine rhF.if_ne (pc := 4) 28 dX4_takeSign_4 (by decide) (fun h2 => ?_) (fun h2 => ?_)
  · refine rhF.aload_n (pc := 7) dX4_takeSign_7 0 rfl ?_
    refine rhF.get (pc := 8) (rhR _) dX4_takeSign_8 fl_X4_18 h1 rfl ?_
    refine rhF.ck (fun h3 => ?_)
    refine rhF.get (pc := 11) (rhI _) dX4_takeSign_11 fl_X4_129 h3 rfl ?_
    refine rhF.iload_n (pc := 14) dX4_takeSign_14 1 rfl ?_
    refine rhF.icmp_ne (pc := 15) 28 dX4_takeSign_15 (by decide) (fun h4 => ?_) (fun h4 => ?_)
    · refine rhF.aload_n (pc := 18) dX4_takeSign_18 0 rfl ?_
      refine rhF.get (pc := 19) (rhR _) dX4_takeSign_19 fl_X4_18 h1 rfl ?_
      refine rhF.callV (pc := 22) (ci := 8) (embc := rhe1U _) [] dX4_takeSign_22 ml_X4_126 mv_X8_advance ⟨_, rfl, rfl⟩ h3 (c_X8_advance _ _ _ _) (by decide) (by decide) rfl (Nat.le_of_ble_eq_true rfl) (fun r5 _ => ?_)
      refine rhF.goto (pc := 25) 32 dX4_takeSign_25 (by decide) ?_
      exact rhF.vret (pc := 32) dX4_takeSign_32 rfl rfl
    · refine rhF.sub [0] rfl ?_
      exact (b_X4_takeSign_28) _ _
  · refine rhF.sub [0] rfl ?_
    exact (b_X4_takeSign_28) _ _
theorem c_X4_takeSign (E : rhE) (Γ : rhG) (M : rhM) (v0 : Nat) (v1 : Int32) : ∀ a, f_X4_takeSign Γ M v0 v1 = some a → rhC E 7 yX4_takeSign cX4_takeSign 2 none [rhR v0, rhI v1] Γ M ((rhe1U Γ) a) := rhF.met (by decide +kernel) (Nat.le_of_ble_eq_true rfl) (b_X4_takeSign M v0 v1)
def f_X4_takeNumber_45 (k51 : rhM → Nat → Int32 → Option (Int32 × rhM)) (Γ : rhG) (M : rhM) (v0 : Nat) (v3 : Int32) (v4 : Int32) : Option (Int32 × rhM) :=
  rhck (Γ.2.2.1 v0 = 5) <|
  (f_X4_blame Γ M v0 (4 : Int32) v3).bind fun r8 =>
  k51 r8 v0 v4
def f_X4_takeNumber_51 (Γ : rhG) (M : rhM) (v0 : Nat) (v4 : Int32) : Option (Int32 × rhM) :=
  rhck (Γ.2.2.1 v0 = 5) <|
  rhck (Γ.2.2.1 (M.2.2 v0 2) = 9) <|
  (f_X8_advance Γ M (M.2.2 v0 2)).bind fun r11 =>
  some ((v4, r11))
def f_X4_takeNumber_18 (Γ : rhG) (M : rhM) (v0 : Nat) (v1 : Int32) : Option (Int32 × rhM) :=
  rhck (Γ.2.2.1 v0 = 5) <|
  (f_X4_refuse Γ M v0).bind fun r14 =>
  some ((v1, r14))
def f_X4_takeNumber (Γ : rhG) (M : rhM) (v0 : Nat) (v1 : Int32) (v2 : Int32) (v3 : Int32) : Option (Int32 × rhM) :=
  rhck (Γ.2.2.1 v0 = 5) <|
  if (M.1 v0 0) = 0 then
    (rhck (Γ.2.2.1 (M.2.2 v0 2) = 9) <|
    if (M.1 (M.2.2 v0 2) 4) = 4 then
      (let x5 := M.1 (M.2.2 v0 2) 8
      if x5 < v1 then
        (f_X4_takeNumber_45 (f_X4_takeNumber_51 Γ) Γ M v0 v3 x5)
      else
        if v2 < x5 then
          (f_X4_takeNumber_45 (f_X4_takeNumber_51 Γ) Γ M v0 v3 x5)
        else
          f_X4_takeNumber_51 Γ M v0 x5)
    else
      f_X4_takeNumber_18 Γ M v0 v1)
  else
    f_X4_takeNumber_18 Γ M v0 v1
set_option maxHeartbeats 4000000 in
set_option maxRecDepth 100000 in
theorem b_X4_takeNumber_45 {E : rhE} {Γ : rhG} {k51 : rhM → Nat → Int32 → Option (Int32 × rhM)} (hk51 : ∀ (M : rhM) (v0 : Nat) (v4 : Int32), rhF E 7 5 yX4_takeNumber cX4_takeNumber (some .int) Γ (rhe1I Γ) (k51 M v0 v4) 51 [(0, rhR v0), (4, rhI v4)] [] Γ M) : ∀ (M : rhM) (v0 : Nat) (v3 : Int32) (v4 : Int32), rhF E 7 5 yX4_takeNumber cX4_takeNumber (some .int) Γ (rhe1I Γ) (f_X4_takeNumber_45 k51 Γ M v0 v3 v4) 45 [(0, rhR v0), (3, rhI v3), (4, rhI v4)] [] Γ M := by
  intro M v0 v3 v4
  rw [f_X4_takeNumber_45]
  refine rhF.aload_n (pc := 45) dX4_takeNumber_45 0 rfl ?_
  refine rhF.iconst (pc := 46) (v := 4) dX4_takeNumber_46 (by decide) ?_
  refine rhF.iload_n (pc := 47) dX4_takeNumber_47 1 rfl ?_
  refine rhF.ck (fun h7 => ?_)
  refine rhF.callV (pc := 48) (ci := 4) (embc := rhe1U _) [rhI _, rhI _] dX4_takeNumber_48 ml_X4_122 mv_X4_blame ⟨_, rfl, rfl⟩ h7 (c_X4_blame _ _ _ _ _ _) (by decide) (by decide) rfl (Nat.le_of_ble_eq_true rfl) (fun r8 _ => ?_)
  refine rhF.sub [0, 2] rfl ?_
  exact hk51 _ _ _
set_option maxHeartbeats 4000000 in
set_option maxRecDepth 100000 in
theorem b_X4_takeNumber_51 {E : rhE} {Γ : rhG} : ∀ (M : rhM) (v0 : Nat) (v4 : Int32), rhF E 7 5 yX4_takeNumber cX4_takeNumber (some .int) Γ (rhe1I Γ) (f_X4_takeNumber_51 Γ M v0 v4) 51 [(0, rhR v0), (4, rhI v4)] [] Γ M := by
  intro M v0 v4
  rw [f_X4_takeNumber_51]
  refine rhF.aload_n (pc := 51) dX4_takeNumber_51 0 rfl ?_
  refine rhF.ck (fun h9 => ?_)
  refine rhF.get (pc := 52) (rhR _) dX4_takeNumber_52 fl_X4_18 h9 rfl ?_
  refine rhF.ck (fun h10 => ?_)
  refine rhF.callV (pc := 55) (ci := 8) (embc := rhe1U _) [] dX4_takeNumber_55 ml_X4_126 mv_X8_advance ⟨_, rfl, rfl⟩ h10 (c_X8_advance _ _ _ _) (by decide) (by decide) rfl (Nat.le_of_ble_eq_true rfl) (fun r11 _ => ?_)
  refine rhF.iload (pc := 58) dX4_takeNumber_58 1 rfl ?_
  exact rhF.zret (pc := 60) dX4_takeNumber_60 rfl rfl rfl
set_option maxHeartbeats 4000000 in
set_option maxRecDepth 100000 in
theorem b_X4_takeNumber_18 {E : rhE} {Γ : rhG} : ∀ (M : rhM) (v0 : Nat) (v1 : Int32), rhF E 7 5 yX4_takeNumber cX4_takeNumber (some .int) Γ (rhe1I Γ) (f_X4_takeNumber_18 Γ M v0 v1) 18 [(0, rhR v0), (1, rhI v1)] [] Γ M := by
  intro M v0 v1
  rw [f_X4_takeNumber_18]
  refine rhF.aload_n (pc := 18) dX4_takeNumber_18 0 rfl ?_
  refine rhF.ck (fun h13 => ?_)
  refine rhF.callV (pc := 19) (ci := 4) (embc := rhe1U _) [] dX4_takeNumber_19 ml_X4_70 mv_X4_refuse ⟨_, rfl, rfl⟩ h13 (c_X4_refuse _ _ _ _) (by decide) (by decide) rfl (Nat.le_of_ble_eq_true rfl) (fun r14 _ => ?_)
  refine rhF.iload_n (pc := 22) dX4_takeNumber_22 1 rfl ?_
  exact rhF.zret (pc := 23) dX4_takeNumber_23 rfl rfl rfl
set_option maxHeartbeats 4000000 in
set_option maxRecDepth 100000 in
theorem b_X4_takeNumber {E : rhE} {Γ : rhG} : ∀ (M : rhM) (v0 : Nat) (v1 : Int32) (v2 : Int32) (v3 : Int32), rhF E 7 5 yX4_takeNumber cX4_takeNumber (some .int) Γ (rhe1I Γ) (f_X4_takeNumber Γ M v0 v1 v2 v3) 0 [(0, rhR v0), (1, rhI v1), (2, rhI v2), (3, rhI v3)] [] Γ M := by
  intro M v0 v1 v2 v3
  rw [f_X4_takeNumber]
  refine rhF.aload_n (pc := 0) dX4_takeNumber_0 0 rfl ?_
  refine rhF.ck (fun h1 => ?_)
  refine rhF.get (pc := 1) (rhI _) dX4_takeNumber_1 fl_X4_43 h1 rfl ?_
  refine rhF.if_ne (pc := 4) 18 dX4_takeNumber_4 (by decide) (fun h2 => ?_) (fun h2 => ?_)
  · refine rhF.aload_n (pc := 7) dX4_takeNumber_7 0 rfl ?_
    refine rhF.get (pc := 8) (rhR _) dX4_takeNumber_8 fl_X4_18 h1 rfl ?_
    refine rhF.ck (fun h3 => ?_)
    refine rhF.get (pc := 11) (rhI _) dX4_takeNumber_11 fl_X4_46 h3 rfl ?_
    refine rhF.iconst (pc := 14) (v := 4) dX4_takeNumber_14 (by decide) ?_
    refine rhF.icmp_eq (pc := 15) 24 dX4_takeNumber_15 (by decide) (fun h4 => ?_) (fun h4 => ?_)
    · refine rhF.aload_n (pc := 24) dX4_takeNumber_24 0 rfl ?_
      refine rhF.get (pc := 25) (rhR _) dX4_takeNumber_25 fl_X4_18 h1 rfl ?_
      refine rhF.get (pc := 28) (rhI _) dX4_takeNumber_28 fl_X4_132 h3 rfl ?_
      refine rhF.istore (pc := 31) (L' := [(4, rhI _), (0, rhR _), (1, rhI _), (2, rhI _), (3, rhI _)]) dX4_takeNumber_31 (by decide) rfl ?_
      refine rhF.iload (pc := 33) dX4_takeNumber_33 0 rfl ?_
      refine rhF.iload_n (pc := 35) dX4_takeNumber_35 2 rfl ?_
      refine rhF.icmp_lt (pc := 36) 45 dX4_takeNumber_36 (by decide) (fun h6 => ?_) (fun h6 => ?_)
      · refine rhF.sub [1, 4, 0] rfl ?_
        exact (b_X4_takeNumber_45 (b_X4_takeNumber_51)) _ _ _ _
      · refine rhF.iload (pc := 39) dX4_takeNumber_39 0 rfl ?_
        refine rhF.iload_n (pc := 41) dX4_takeNumber_41 3 rfl ?_
        refine rhF.icmp_le (pc := 42) 51 dX4_takeNumber_42 (by decide) (fun h12 => ?_) (fun h12 => ?_)
        · refine rhF.sub [1, 4, 0] rfl ?_
          exact (b_X4_takeNumber_45 (b_X4_takeNumber_51)) _ _ _ _
        · refine rhF.sub [1, 0] rfl ?_
          exact (b_X4_takeNumber_51) _ _ _
    · refine rhF.sub [0, 1] rfl ?_
      exact (b_X4_takeNumber_18) _ _ _
  · refine rhF.sub [0, 1] rfl ?_
    exact (b_X4_takeNumber_18) _ _ _
theorem c_X4_takeNumber (E : rhE) (Γ : rhG) (M : rhM) (v0 : Nat) (v1 : Int32) (v2 : Int32) (v3 : Int32) : ∀ a, f_X4_takeNumber Γ M v0 v1 v2 v3 = some a → rhC E 7 yX4_takeNumber cX4_takeNumber 5 (some .int) [rhR v0, rhI v1, rhI v2, rhI v3] Γ M ((rhe1I Γ) a) := rhF.met (by decide +kernel) (Nat.le_of_ble_eq_true rfl) (b_X4_takeNumber M v0 v1 v2 v3)
def f_X4_takeSignedNumber_43 (Γ : rhG) (M : rhM) (v0 : Nat) (v1 : Int32) (v2 : Int32) : Option (Int32 × rhM) :=
  rhck (Γ.2.2.1 v0 = 5) <|
  (f_X4_takeNumber Γ M v0 (0 : Int32) v1 v2).bind fun r9 =>
  some ((r9.1, r9.2))
def f_X4_takeSignedNumber (Γ : rhG) (M : rhM) (v0 : Nat) (v1 : Int32) : Option (Int32 × rhM) :=
  rhck (Γ.2.2.1 v0 = 5) <|
  rhck (Γ.2.2.1 (M.2.2 v0 2) = 9) <|
  let x3 := M.1 (M.2.2 v0 2) 5
  if (M.1 v0 0) = 0 then
    (if (M.1 (M.2.2 v0 2) 9) = 45 then
      ((f_X8_advance Γ M (M.2.2 v0 2)).bind fun r6 =>
      (f_X4_takeNumber Γ r6 v0 (0 : Int32) v1 x3).bind fun r7 =>
      some ((-r7.1, r7.2)))
    else
      f_X4_takeSignedNumber_43 Γ M v0 v1 x3)
  else
    f_X4_takeSignedNumber_43 Γ M v0 v1 x3
set_option maxHeartbeats 4000000 in
set_option maxRecDepth 100000 in
theorem b_X4_takeSignedNumber_43 {E : rhE} {Γ : rhG} : ∀ (M : rhM) (v0 : Nat) (v1 : Int32) (v2 : Int32), rhF E 8 3 yX4_takeSignedNumber cX4_takeSignedNumber (some .int) Γ (rhe1I Γ) (f_X4_takeSignedNumber_43 Γ M v0 v1 v2) 43 [(0, rhR v0), (1, rhI v1), (2, rhI v2)] [] Γ M := by
  intro M v0 v1 v2
  rw [f_X4_takeSignedNumber_43]
  refine rhF.aload_n (pc := 43) dX4_takeSignedNumber_43 0 rfl ?_
  refine rhF.iconst (pc := 44) (v := 0) dX4_takeSignedNumber_44 (by decide) ?_
  refine rhF.iload_n (pc := 45) dX4_takeSignedNumber_45 1 rfl ?_
  refine rhF.iload_n (pc := 46) dX4_takeSignedNumber_46 2 rfl ?_
  refine rhF.ck (fun h8 => ?_)
  refine rhF.callV (pc := 47) (ci := 4) (embc := rhe1I _) [rhI _, rhI _, rhI _] dX4_takeSignedNumber_47 ml_X4_135 mv_X4_takeNumber ⟨_, rfl, rfl⟩ h8 (c_X4_takeNumber _ _ _ _ _ _ _) (by decide) (by decide) rfl (Nat.le_of_ble_eq_true rfl) (fun r9 _ => ?_)
  exact rhF.zret (pc := 50) dX4_takeSignedNumber_50 rfl rfl rfl
set_option maxHeartbeats 4000000 in
set_option maxRecDepth 100000 in
theorem b_X4_takeSignedNumber {E : rhE} {Γ : rhG} : ∀ (M : rhM) (v0 : Nat) (v1 : Int32), rhF E 8 3 yX4_takeSignedNumber cX4_takeSignedNumber (some .int) Γ (rhe1I Γ) (f_X4_takeSignedNumber Γ M v0 v1) 0 [(0, rhR v0), (1, rhI v1)] [] Γ M := by
  intro M v0 v1
  rw [f_X4_takeSignedNumber]
  refine rhF.aload_n (pc := 0) dX4_takeSignedNumber_0 0 rfl ?_
  refine rhF.ck (fun h1 => ?_)
  refine rhF.get (pc := 1) (rhR _) dX4_takeSignedNumber_1 fl_X4_18 h1 rfl ?_
  refine rhF.ck (fun h2 => ?_)
  refine rhF.get (pc := 4) (rhI _) dX4_takeSignedNumber_4 fl_X4_121 h2 rfl ?_
  refine rhF.istore_n (pc := 7) (L' := [(2, rhI _), (0, rhR _), (1, rhI _)]) dX4_takeSignedNumber_7 (by decide) rfl ?_
  refine rhF.aload_n (pc := 8) dX4_takeSignedNumber_8 1 rfl ?_
  refine rhF.get (pc := 9) (rhI _) dX4_takeSignedNumber_9 fl_X4_43 h1 rfl ?_
  refine rhF.if_ne (pc := 12) 43 dX4_takeSignedNumber_12 (by decide) (fun h4 => ?_) (fun h4 => ?_)
  · refine rhF.aload_n (pc := 15) dX4_takeSignedNumber_15 1 rfl ?_
    refine rhF.get (pc := 16) (rhR _) dX4_takeSignedNumber_16 fl_X4_18 h1 rfl ?_
    refine rhF.get (pc := 19) (rhI _) dX4_takeSignedNumber_19 fl_X4_129 h2 rfl ?_
    refine rhF.bipush (pc := 22) (v := 45) dX4_takeSignedNumber_22 (by decide) ?_
    refine rhF.icmp_ne (pc := 24) 43 dX4_takeSignedNumber_24 (by decide) (fun h5 => ?_) (fun h5 => ?_)
    · refine rhF.aload_n (pc := 27) dX4_takeSignedNumber_27 1 rfl ?_
      refine rhF.get (pc := 28) (rhR _) dX4_takeSignedNumber_28 fl_X4_18 h1 rfl ?_
      refine rhF.callV (pc := 31) (ci := 8) (embc := rhe1U _) [] dX4_takeSignedNumber_31 ml_X4_126 mv_X8_advance ⟨_, rfl, rfl⟩ h2 (c_X8_advance _ _ _ _) (by decide) (by decide) rfl (Nat.le_of_ble_eq_true rfl) (fun r6 _ => ?_)
      refine rhF.aload_n (pc := 34) dX4_takeSignedNumber_34 1 rfl ?_
      refine rhF.iconst (pc := 35) (v := 0) dX4_takeSignedNumber_35 (by decide) ?_
      refine rhF.iload_n (pc := 36) dX4_takeSignedNumber_36 2 rfl ?_
      refine rhF.iload_n (pc := 37) dX4_takeSignedNumber_37 0 rfl ?_
      refine rhF.callV (pc := 38) (ci := 4) (embc := rhe1I _) [rhI _, rhI _, rhI _] dX4_takeSignedNumber_38 ml_X4_135 mv_X4_takeNumber ⟨_, rfl, rfl⟩ h1 (c_X4_takeNumber _ _ _ _ _ _ _) (by decide) (by decide) rfl (Nat.le_of_ble_eq_true rfl) (fun r7 _ => ?_)
      refine rhF.ineg (pc := 41) dX4_takeSignedNumber_41 ?_
      exact rhF.zret (pc := 42) dX4_takeSignedNumber_42 rfl rfl rfl
    · refine rhF.sub [1, 2, 0] rfl ?_
      exact (b_X4_takeSignedNumber_43) _ _ _ _
  · refine rhF.sub [1, 2, 0] rfl ?_
    exact (b_X4_takeSignedNumber_43) _ _ _ _
theorem c_X4_takeSignedNumber (E : rhE) (Γ : rhG) (M : rhM) (v0 : Nat) (v1 : Int32) : ∀ a, f_X4_takeSignedNumber Γ M v0 v1 = some a → rhC E 8 yX4_takeSignedNumber cX4_takeSignedNumber 3 (some .int) [rhR v0, rhI v1] Γ M ((rhe1I Γ) a) := rhF.met (by decide +kernel) (Nat.le_of_ble_eq_true rfl) (b_X4_takeSignedNumber M v0 v1)
def f_X4_takeToldName_18 (Γ : rhG) (M : rhM) (v0 : Nat) : Option (Int32 × rhM) :=
  rhck (Γ.2.2.1 v0 = 5) <|
  (f_X4_refuse Γ M v0).bind fun r10 =>
  some ((0, r10))
def f_X4_takeToldName (Γ : rhG) (M : rhM) (v0 : Nat) (v1 : Nat) (v2 : Int32) : Option (Int32 × rhM) :=
  rhck (Γ.2.2.1 v0 = 5) <|
  if (M.1 v0 0) = 0 then
    (rhck (Γ.2.2.1 (M.2.2 v0 2) = 9) <|
    if (M.1 (M.2.2 v0 2) 4) = 2 then
      ((f_X4_numberOf Γ M (M.2.1 (M.2.2 v0 2) 6) v1 v2).bind fun r5 =>
      if r5 = ((-1)) then
        ((f_X4_blame Γ M v0 (5 : Int32) (M.1 (M.2.2 v0 2) 5)).bind fun r7 =>
        some ((0, r7)))
      else
        (f_X8_advance Γ M (M.2.2 v0 2)).bind fun r8 =>
        some ((r5, r8)))
    else
      f_X4_takeToldName_18 Γ M v0)
  else
    f_X4_takeToldName_18 Γ M v0
set_option maxHeartbeats 4000000 in
set_option maxRecDepth 100000 in
theorem b_X4_takeToldName_18 {E : rhE} {Γ : rhG} : ∀ (M : rhM) (v0 : Nat), rhF E 7 4 yX4_takeToldName cX4_takeToldName (some .int) Γ (rhe1I Γ) (f_X4_takeToldName_18 Γ M v0) 18 [(0, rhR v0)] [] Γ M := by
  intro M v0
  rw [f_X4_takeToldName_18]
  refine rhF.aload_n (pc := 18) dX4_takeToldName_18 0 rfl ?_
  refine rhF.ck (fun h9 => ?_)
  refine rhF.callV (pc := 19) (ci := 4) (embc := rhe1U _) [] dX4_takeToldName_19 ml_X4_70 mv_X4_refuse ⟨_, rfl, rfl⟩ h9 (c_X4_refuse _ _ _ _) (by decide) (by decide) rfl (Nat.le_of_ble_eq_true rfl) (fun r10 _ => ?_)
  refine rhF.iconst (pc := 22) (v := 0) dX4_takeToldName_22 (by decide) ?_
  exact rhF.zret (pc := 23) dX4_takeToldName_23 rfl rfl rfl
set_option maxHeartbeats 4000000 in
set_option maxRecDepth 100000 in
theorem b_X4_takeToldName {E : rhE} {Γ : rhG} : ∀ (M : rhM) (v0 : Nat) (v1 : Nat) (v2 : Int32), rhF E 7 4 yX4_takeToldName cX4_takeToldName (some .int) Γ (rhe1I Γ) (f_X4_takeToldName Γ M v0 v1 v2) 0 [(0, rhR v0), (1, rhR v1), (2, rhI v2)] [] Γ M := by
  intro M v0 v1 v2
  rw [f_X4_takeToldName]
  refine rhF.aload_n (pc := 0) dX4_takeToldName_0 0 rfl ?_
  refine rhF.ck (fun h1 => ?_)
  refine rhF.get (pc := 1) (rhI _) dX4_takeToldName_1 fl_X4_43 h1 rfl ?_
  refine rhF.if_ne (pc := 4) 18 dX4_takeToldName_4 (by decide) (fun h2 => ?_) (fun h2 => ?_)
  · refine rhF.aload_n (pc := 7) dX4_takeToldName_7 0 rfl ?_
    refine rhF.get (pc := 8) (rhR _) dX4_takeToldName_8 fl_X4_18 h1 rfl ?_
    refine rhF.ck (fun h3 => ?_)
    refine rhF.get (pc := 11) (rhI _) dX4_takeToldName_11 fl_X4_46 h3 rfl ?_
    refine rhF.iconst (pc := 14) (v := 2) dX4_takeToldName_14 (by decide) ?_
    refine rhF.icmp_eq (pc := 15) 24 dX4_takeToldName_15 (by decide) (fun h4 => ?_) (fun h4 => ?_)
    · refine rhF.aload_n (pc := 24) dX4_takeToldName_24 0 rfl ?_
      refine rhF.get (pc := 25) (rhR _) dX4_takeToldName_25 fl_X4_18 h1 rfl ?_
      refine rhF.get (pc := 28) (rhJ _) dX4_takeToldName_28 fl_X4_139 h3 rfl ?_
      refine rhF.aload_n (pc := 31) dX4_takeToldName_31 1 rfl ?_
      refine rhF.iload_n (pc := 32) dX4_takeToldName_32 2 rfl ?_
      refine rhF.callS (pc := 33) (embc := rhe0I _ _) [rhJ _, rhR _, rhI _] dX4_takeToldName_33 ml_X4_142 ms_X4_numberOf (c_X4_numberOf _ _ _ _ _ _) (by decide) (by decide) rfl (Nat.le_of_ble_eq_true rfl) (fun r5 _ => ?_)
      refine rhF.istore_n (pc := 36) (L' := [(3, rhI _), (0, rhR _), (1, rhR _), (2, rhI _)]) dX4_takeToldName_36 (by decide) rfl ?_
      refine rhF.iload_n (pc := 37) dX4_takeToldName_37 0 rfl ?_
      refine rhF.iconst (pc := 38) (v := (-1)) dX4_takeToldName_38 (by decide) ?_
      refine rhF.icmp_ne (pc := 39) 56 dX4_takeToldName_39 (by decide) (fun h6 => ?_) (fun h6 => ?_)
      · refine rhF.aload_n (pc := 42) dX4_takeToldName_42 1 rfl ?_
        refine rhF.iconst (pc := 43) (v := 5) dX4_takeToldName_43 (by decide) ?_
        refine rhF.aload_n (pc := 44) dX4_takeToldName_44 1 rfl ?_
        refine rhF.get (pc := 45) (rhR _) dX4_takeToldName_45 fl_X4_18 h1 rfl ?_
        refine rhF.get (pc := 48) (rhI _) dX4_takeToldName_48 fl_X4_121 h3 rfl ?_
        refine rhF.callV (pc := 51) (ci := 4) (embc := rhe1U _) [rhI _, rhI _] dX4_takeToldName_51 ml_X4_122 mv_X4_blame ⟨_, rfl, rfl⟩ h1 (c_X4_blame _ _ _ _ _ _) (by decide) (by decide) rfl (Nat.le_of_ble_eq_true rfl) (fun r7 _ => ?_)
        refine rhF.iconst (pc := 54) (v := 0) dX4_takeToldName_54 (by decide) ?_
        exact rhF.zret (pc := 55) dX4_takeToldName_55 rfl rfl rfl
      · refine rhF.aload_n (pc := 56) dX4_takeToldName_56 1 rfl ?_
        refine rhF.get (pc := 57) (rhR _) dX4_takeToldName_57 fl_X4_18 h1 rfl ?_
        refine rhF.callV (pc := 60) (ci := 8) (embc := rhe1U _) [] dX4_takeToldName_60 ml_X4_126 mv_X8_advance ⟨_, rfl, rfl⟩ h3 (c_X8_advance _ _ _ _) (by decide) (by decide) rfl (Nat.le_of_ble_eq_true rfl) (fun r8 _ => ?_)
        refine rhF.iload_n (pc := 63) dX4_takeToldName_63 0 rfl ?_
        exact rhF.zret (pc := 64) dX4_takeToldName_64 rfl rfl rfl
    · refine rhF.sub [0] rfl ?_
      exact (b_X4_takeToldName_18) _ _
  · refine rhF.sub [0] rfl ?_
    exact (b_X4_takeToldName_18) _ _
theorem c_X4_takeToldName (E : rhE) (Γ : rhG) (M : rhM) (v0 : Nat) (v1 : Nat) (v2 : Int32) : ∀ a, f_X4_takeToldName Γ M v0 v1 v2 = some a → rhC E 7 yX4_takeToldName cX4_takeToldName 4 (some .int) [rhR v0, rhR v1, rhI v2] Γ M ((rhe1I Γ) a) := rhF.met (by decide +kernel) (Nat.le_of_ble_eq_true rfl) (b_X4_takeToldName M v0 v1 v2)
def f_X4_takeWord_28 (Γ : rhG) (M : rhM) (v0 : Nat) : Option (rhM) :=
  rhck (Γ.2.2.1 v0 = 5) <|
  (f_X4_refuse Γ M v0).bind fun r7 =>
  some r7
def f_X4_takeWord (Γ : rhG) (M : rhM) (v0 : Nat) (v1 : Int32) : Option (rhM) :=
  rhck (Γ.2.2.1 v0 = 5) <|
  if (M.1 v0 0) = 0 then
    (rhck (Γ.2.2.1 (M.2.2 v0 2) = 9) <|
    if (M.1 (M.2.2 v0 2) 7) = v1 then
      ((f_X8_advance Γ M (M.2.2 v0 2)).bind fun r5 =>
      some r5)
    else
      f_X4_takeWord_28 Γ M v0)
  else
    f_X4_takeWord_28 Γ M v0
set_option maxHeartbeats 4000000 in
set_option maxRecDepth 100000 in
theorem b_X4_takeWord_28 {E : rhE} {Γ : rhG} : ∀ (M : rhM) (v0 : Nat), rhF E 7 2 yX4_takeWord cX4_takeWord none Γ (rhe1U Γ) (f_X4_takeWord_28 Γ M v0) 28 [(0, rhR v0)] [] Γ M := by
  intro M v0
  rw [f_X4_takeWord_28]
  refine rhF.aload_n (pc := 28) dX4_takeWord_28 0 rfl ?_
  refine rhF.ck (fun h6 => ?_)
  refine rhF.callV (pc := 29) (ci := 4) (embc := rhe1U _) [] dX4_takeWord_29 ml_X4_70 mv_X4_refuse ⟨_, rfl, rfl⟩ h6 (c_X4_refuse _ _ _ _) (by decide) (by decide) rfl (Nat.le_of_ble_eq_true rfl) (fun r7 _ => ?_)
  exact rhF.vret (pc := 32) dX4_takeWord_32 rfl rfl
set_option maxHeartbeats 4000000 in
set_option maxRecDepth 100000 in
theorem b_X4_takeWord {E : rhE} {Γ : rhG} : ∀ (M : rhM) (v0 : Nat) (v1 : Int32), rhF E 7 2 yX4_takeWord cX4_takeWord none Γ (rhe1U Γ) (f_X4_takeWord Γ M v0 v1) 0 [(0, rhR v0), (1, rhI v1)] [] Γ M := by
  intro M v0 v1
  rw [f_X4_takeWord]
  refine rhF.aload_n (pc := 0) dX4_takeWord_0 0 rfl ?_
  refine rhF.ck (fun h1 => ?_)
  refine rhF.get (pc := 1) (rhI _) dX4_takeWord_1 fl_X4_43 h1 rfl ?_
  refine rhF.if_ne (pc := 4) 28 dX4_takeWord_4 (by decide) (fun h2 => ?_) (fun h2 => ?_)
  · refine rhF.aload_n (pc := 7) dX4_takeWord_7 0 rfl ?_
    refine rhF.get (pc := 8) (rhR _) dX4_takeWord_8 fl_X4_18 h1 rfl ?_
    refine rhF.ck (fun h3 => ?_)
    refine rhF.get (pc := 11) (rhI _) dX4_takeWord_11 fl_X4_49 h3 rfl ?_
    refine rhF.iload_n (pc := 14) dX4_takeWord_14 1 rfl ?_
    refine rhF.icmp_ne (pc := 15) 28 dX4_takeWord_15 (by decide) (fun h4 => ?_) (fun h4 => ?_)
    · refine rhF.aload_n (pc := 18) dX4_takeWord_18 0 rfl ?_
      refine rhF.get (pc := 19) (rhR _) dX4_takeWord_19 fl_X4_18 h1 rfl ?_
      refine rhF.callV (pc := 22) (ci := 8) (embc := rhe1U _) [] dX4_takeWord_22 ml_X4_126 mv_X8_advance ⟨_, rfl, rfl⟩ h3 (c_X8_advance _ _ _ _) (by decide) (by decide) rfl (Nat.le_of_ble_eq_true rfl) (fun r5 _ => ?_)
      refine rhF.goto (pc := 25) 32 dX4_takeWord_25 (by decide) ?_
      exact rhF.vret (pc := 32) dX4_takeWord_32 rfl rfl
    · refine rhF.sub [0] rfl ?_
      exact (b_X4_takeWord_28) _ _
  · refine rhF.sub [0] rfl ?_
    exact (b_X4_takeWord_28) _ _
theorem c_X4_takeWord (E : rhE) (Γ : rhG) (M : rhM) (v0 : Nat) (v1 : Int32) : ∀ a, f_X4_takeWord Γ M v0 v1 = some a → rhC E 7 yX4_takeWord cX4_takeWord 2 none [rhR v0, rhI v1] Γ M ((rhe1U Γ) a) := rhF.met (by decide +kernel) (Nat.le_of_ble_eq_true rfl) (b_X4_takeWord M v0 v1)
def f_X9_addBeside (Γ : rhG) (M : rhM) (v0 : Nat) (v1 : Int32) (v2 : Int32) (v3 : Int32) : Option (rhM) :=
  rhck (Γ.2.2.1 v0 = 10) <|
  rhck (Γ.2.2.1 (M.2.2 v0 10) = 17) <|
  rhck (0 ≤ ((v1 * 8) + v2).toInt ∧ ((v1 * 8) + v2).toInt < (Γ.2.2.2 (M.2.2 v0 10) : Nat)) <|
  let M4 := rhsi M (M.2.2 v0 10) ((v1 * 8) + v2 : Int32).toNatClampNeg (vp_nar .boolean 1)
  rhck (0 ≤ ((v2 * 8) + v1).toInt ∧ ((v2 * 8) + v1).toInt < (Γ.2.2.2 (M.2.2 v0 10) : Nat)) <|
  let M6 := rhsi M4 (M.2.2 v0 10) ((v2 * 8) + v1 : Int32).toNatClampNeg (vp_nar .boolean 1)
  rhck (Γ.2.2.1 (M.2.2 v0 9) = 15) <|
  rhck (0 ≤ ((v1 * 8) + v2).toInt ∧ ((v1 * 8) + v2).toInt < (Γ.2.2.2 (M.2.2 v0 9) : Nat)) <|
  let M9 := rhsi M6 (M.2.2 v0 9) ((v1 * 8) + v2 : Int32).toNatClampNeg v3
  rhck (0 ≤ ((v2 * 8) + v1).toInt ∧ ((v2 * 8) + v1).toInt < (Γ.2.2.2 (M.2.2 v0 9) : Nat)) <|
  let M11 := rhsi M9 (M.2.2 v0 9) ((v2 * 8) + v1 : Int32).toNatClampNeg v3
  let M12 := rhsi M11 v0 4 ((M11.1 v0 4) + 1)
  some M12
set_option maxHeartbeats 4000000 in
set_option maxRecDepth 100000 in
theorem b_X9_addBeside {E : rhE} {Γ : rhG} : ∀ (M : rhM) (v0 : Nat) (v1 : Int32) (v2 : Int32) (v3 : Int32), rhF E 1 4 yX9_addBeside cX9_addBeside none Γ (rhe1U Γ) (f_X9_addBeside Γ M v0 v1 v2 v3) 0 [(0, rhR v0), (1, rhI v1), (2, rhI v2), (3, rhI v3)] [] Γ M := by
  intro M v0 v1 v2 v3
  rw [f_X9_addBeside]
  refine rhF.aload_n (pc := 0) dX9_addBeside_0 0 rfl ?_
  refine rhF.ck (fun h1 => ?_)
  refine rhF.get (pc := 1) (rhR _) dX9_addBeside_1 fl_X9_24 h1 rfl ?_
  refine rhF.iload_n (pc := 4) dX9_addBeside_4 1 rfl ?_
  refine rhF.bipush (pc := 5) (v := 8) dX9_addBeside_5 (by decide) ?_
  refine rhF.imul (pc := 7) dX9_addBeside_7 ?_
  refine rhF.iload_n (pc := 8) dX9_addBeside_8 2 rfl ?_
  refine rhF.iadd (pc := 9) dX9_addBeside_9 ?_
  refine rhF.iconst (pc := 10) (v := 1) dX9_addBeside_10 (by decide) ?_
  refine rhF.ck (fun h2 => ?_)
  refine rhF.ck (fun h3 => ?_)
  refine rhF.zast (pc := 11) dX9_addBeside_11 h2 h3 ?_
  refine rhF.aload_n (pc := 12) dX9_addBeside_12 0 rfl ?_
  refine rhF.get (pc := 13) (rhR _) dX9_addBeside_13 fl_X9_24 h1 rfl ?_
  refine rhF.iload_n (pc := 16) dX9_addBeside_16 2 rfl ?_
  refine rhF.bipush (pc := 17) (v := 8) dX9_addBeside_17 (by decide) ?_
  refine rhF.imul (pc := 19) dX9_addBeside_19 ?_
  refine rhF.iload_n (pc := 20) dX9_addBeside_20 1 rfl ?_
  refine rhF.iadd (pc := 21) dX9_addBeside_21 ?_
  refine rhF.iconst (pc := 22) (v := 1) dX9_addBeside_22 (by decide) ?_
  refine rhF.ck (fun h5 => ?_)
  refine rhF.zast (pc := 23) dX9_addBeside_23 h2 h5 ?_
  refine rhF.aload_n (pc := 24) dX9_addBeside_24 0 rfl ?_
  refine rhF.get (pc := 25) (rhR _) dX9_addBeside_25 fl_X9_21 h1 rfl ?_
  refine rhF.iload_n (pc := 28) dX9_addBeside_28 1 rfl ?_
  refine rhF.bipush (pc := 29) (v := 8) dX9_addBeside_29 (by decide) ?_
  refine rhF.imul (pc := 31) dX9_addBeside_31 ?_
  refine rhF.iload_n (pc := 32) dX9_addBeside_32 2 rfl ?_
  refine rhF.iadd (pc := 33) dX9_addBeside_33 ?_
  refine rhF.iload_n (pc := 34) dX9_addBeside_34 3 rfl ?_
  refine rhF.ck (fun h7 => ?_)
  refine rhF.ck (fun h8 => ?_)
  refine rhF.iast (pc := 35) dX9_addBeside_35 h7 h8 ?_
  refine rhF.aload_n (pc := 36) dX9_addBeside_36 0 rfl ?_
  refine rhF.get (pc := 37) (rhR _) dX9_addBeside_37 fl_X9_21 h1 rfl ?_
  refine rhF.iload_n (pc := 40) dX9_addBeside_40 2 rfl ?_
  refine rhF.bipush (pc := 41) (v := 8) dX9_addBeside_41 (by decide) ?_
  refine rhF.imul (pc := 43) dX9_addBeside_43 ?_
  refine rhF.iload_n (pc := 44) dX9_addBeside_44 1 rfl ?_
  refine rhF.iadd (pc := 45) dX9_addBeside_45 ?_
  refine rhF.iload_n (pc := 46) dX9_addBeside_46 3 rfl ?_
  refine rhF.ck (fun h10 => ?_)
  refine rhF.iast (pc := 47) dX9_addBeside_47 h7 h10 ?_
  refine rhF.aload_n (pc := 48) dX9_addBeside_48 0 rfl ?_
  refine rhF.dupr (pc := 49) dX9_addBeside_49 ?_
  refine rhF.get (pc := 50) (rhI _) dX9_addBeside_50 fl_X9_51 h1 rfl ?_
  refine rhF.iconst (pc := 53) (v := 1) dX9_addBeside_53 (by decide) ?_
  refine rhF.iadd (pc := 54) dX9_addBeside_54 ?_
  refine rhF.puti (pc := 55) dX9_addBeside_55 fl_X9_51 h1 (fun q hq => by cases hq; exact Or.inl rfl) ⟨rfl, rfl⟩ (fun _ => rfl) ?_
  exact rhF.vret (pc := 58) dX9_addBeside_58 rfl rfl
theorem c_X9_addBeside (E : rhE) (Γ : rhG) (M : rhM) (v0 : Nat) (v1 : Int32) (v2 : Int32) (v3 : Int32) : ∀ a, f_X9_addBeside Γ M v0 v1 v2 v3 = some a → rhC E 1 yX9_addBeside cX9_addBeside 4 none [rhR v0, rhI v1, rhI v2, rhI v3] Γ M ((rhe1U Γ) a) := rhF.met (by decide +kernel) (Nat.le_of_ble_eq_true rfl) (b_X9_addBeside M v0 v1 v2 v3)
def f_X9_isTold (Γ : rhG) (M : rhM) (v0 : Nat) (v1 : Int32) (v2 : Int32) : Option (Int32) :=
  rhck (Γ.2.2.1 v0 = 10) <|
  rhck (Γ.2.2.1 (M.2.2 v0 10) = 17) <|
  rhck (0 ≤ ((v1 * 8) + v2).toInt ∧ ((v1 * 8) + v2).toInt < (Γ.2.2.2 (M.2.2 v0 10) : Nat)) <|
  rhck (M.1 (M.2.2 v0 10) ((v1 * 8) + v2).toNatClampNeg = 0 ∨ M.1 (M.2.2 v0 10) ((v1 * 8) + v2).toNatClampNeg = 1) <|
  some (M.1 (M.2.2 v0 10) ((v1 * 8) + v2).toNatClampNeg)
set_option maxHeartbeats 4000000 in
set_option maxRecDepth 100000 in
theorem b_X9_isTold {E : rhE} {Γ : rhG} {M : rhM} : ∀ (v0 : Nat) (v1 : Int32) (v2 : Int32), rhF E 1 3 yX9_isTold cX9_isTold (some .boolean) Γ (rhe0I Γ M) (f_X9_isTold Γ M v0 v1 v2) 0 [(0, rhR v0), (1, rhI v1), (2, rhI v2)] [] Γ M := by
  intro v0 v1 v2
  rw [f_X9_isTold]
  refine rhF.aload_n (pc := 0) dX9_isTold_0 0 rfl ?_
  refine rhF.ck (fun h1 => ?_)
  refine rhF.get (pc := 1) (rhR _) dX9_isTold_1 fl_X9_24 h1 rfl ?_
  refine rhF.iload_n (pc := 4) dX9_isTold_4 1 rfl ?_
  refine rhF.bipush (pc := 5) (v := 8) dX9_isTold_5 (by decide) ?_
  refine rhF.imul (pc := 7) dX9_isTold_7 ?_
  refine rhF.iload_n (pc := 8) dX9_isTold_8 2 rfl ?_
  refine rhF.iadd (pc := 9) dX9_isTold_9 ?_
  refine rhF.ck (fun h2 => ?_)
  refine rhF.ck (fun h3 => ?_)
  refine rhF.zald (pc := 10) dX9_isTold_10 h2 h3 ?_
  refine rhF.ck (fun h4 => ?_)
  exact rhF.zret (pc := 11) dX9_isTold_11 rfl (rhzb h4) rfl
theorem c_X9_isTold (E : rhE) (Γ : rhG) (M : rhM) (v0 : Nat) (v1 : Int32) (v2 : Int32) : ∀ a, f_X9_isTold Γ M v0 v1 v2 = some a → rhC E 1 yX9_isTold cX9_isTold 3 (some .boolean) [rhR v0, rhI v1, rhI v2] Γ M ((rhe0I Γ M) a) := rhF.met (by decide +kernel) (Nat.le_of_ble_eq_true rfl) (b_X9_isTold v0 v1 v2)
def f_X4_readBeside_78 (k84 : rhM → Nat → Int32 → Int32 → Option (rhM)) (Γ : rhG) (M : rhM) (v0 : Nat) (v1 : Int32) (v2 : Int32) (v3 : Int32) : Option (rhM) :=
  rhck (Γ.2.2.1 v0 = 5) <|
  (f_X4_blame Γ M v0 (3 : Int32) v2).bind fun r17 =>
  k84 r17 v0 v1 v3
def f_X4_readBeside_84 (Γ : rhG) (M : rhM) (v0 : Nat) (v1 : Int32) (v3 : Int32) : Option (rhM) :=
  rhck (Γ.2.2.1 v0 = 5) <|
  (f_X4_takeWord Γ M v0 (9 : Int32)).bind fun r19 =>
  (f_X4_takeSignedNumber Γ r19 v0 (99 : Int32)).bind fun r20 =>
  let x21 := r20.1
  (f_X4_takeSign Γ r20.2 v0 (59 : Int32)).bind fun r22 =>
  if (r22.1 v0 0) = 0 then
    (rhck (Γ.2.2.1 (r22.2.2 v0 10) = 10) <|
    (f_X9_addBeside Γ r22 (r22.2.2 v0 10) v1 v3 x21).bind fun r25 =>
    some r25)
  else
    some r22
def f_X4_readBeside_18 (Γ : rhG) (M : rhM) (v0 : Nat) (s0 : Nat) (s1 : Int32) : Option (rhM) :=
  rhck (Γ.2.2.1 s0 = 5) <|
  (f_X4_advanceUnless Γ M s0 s1).bind fun r5 =>
  rhck (Γ.2.2.1 v0 = 5) <|
  rhck (Γ.2.2.1 (r5.2.2 v0 10) = 10) <|
  (f_X4_takeToldName Γ r5 v0 (r5.2.2 v0 4) (r5.1 (r5.2.2 v0 10) 1)).bind fun r8 =>
  let x9 := r8.1
  rhck (Γ.2.2.1 (r8.2.2.2 v0 2) = 9) <|
  let x11 := r8.2.1 (r8.2.2.2 v0 2) 5
  rhck (Γ.2.2.1 (r8.2.2.2 v0 10) = 10) <|
  (f_X4_takeToldName Γ r8.2 v0 (r8.2.2.2 v0 4) (r8.2.1 (r8.2.2.2 v0 10) 1)).bind fun r13 =>
  let x14 := r13.1
  if x9 = x14 then
    (f_X4_readBeside_78 (f_X4_readBeside_84 Γ) Γ r13.2 v0 x9 x11 x14)
  else
    rhck (Γ.2.2.1 (r13.2.2.2 v0 10) = 10) <|
    (f_X9_isTold Γ r13.2 (r13.2.2.2 v0 10) x9 x14).bind fun r27 =>
    if r27 = 0 then
      (f_X4_readBeside_84 Γ r13.2 v0 x9 x14)
    else
      f_X4_readBeside_78 (f_X4_readBeside_84 Γ) Γ r13.2 v0 x9 x11 x14
def f_X4_readBeside (Γ : rhG) (M : rhM) (v0 : Nat) : Option (rhM) :=
  rhck (Γ.2.2.1 v0 = 5) <|
  rhck (Γ.2.2.1 (M.2.2 v0 10) = 10) <|
  if (M.1 (M.2.2 v0 10) 4) < 20 then
    (f_X4_readBeside_18 Γ M v0 v0 0)
  else
    f_X4_readBeside_18 Γ M v0 v0 1
set_option maxHeartbeats 4000000 in
set_option maxRecDepth 100000 in
theorem b_X4_readBeside_78 {E : rhE} {Γ : rhG} {k84 : rhM → Nat → Int32 → Int32 → Option (rhM)} (hk84 : ∀ (M : rhM) (v0 : Nat) (v1 : Int32) (v3 : Int32), rhF E 9 5 yX4_readBeside cX4_readBeside none Γ (rhe1U Γ) (k84 M v0 v1 v3) 84 [(0, rhR v0), (1, rhI v1), (3, rhI v3)] [] Γ M) : ∀ (M : rhM) (v0 : Nat) (v1 : Int32) (v2 : Int32) (v3 : Int32), rhF E 9 5 yX4_readBeside cX4_readBeside none Γ (rhe1U Γ) (f_X4_readBeside_78 k84 Γ M v0 v1 v2 v3) 78 [(0, rhR v0), (1, rhI v1), (2, rhI v2), (3, rhI v3)] [] Γ M := by
  intro M v0 v1 v2 v3
  rw [f_X4_readBeside_78]
  refine rhF.aload_n (pc := 78) dX4_readBeside_78 0 rfl ?_
  refine rhF.iconst (pc := 79) (v := 3) dX4_readBeside_79 (by decide) ?_
  refine rhF.iload_n (pc := 80) dX4_readBeside_80 2 rfl ?_
  refine rhF.ck (fun h16 => ?_)
  refine rhF.callV (pc := 81) (ci := 4) (embc := rhe1U _) [rhI _, rhI _] dX4_readBeside_81 ml_X4_122 mv_X4_blame ⟨_, rfl, rfl⟩ h16 (c_X4_blame _ _ _ _ _ _) (by decide) (by decide) rfl (Nat.le_of_ble_eq_true rfl) (fun r17 _ => ?_)
  refine rhF.sub [0, 1, 3] rfl ?_
  exact hk84 _ _ _ _
set_option maxHeartbeats 4000000 in
set_option maxRecDepth 100000 in
theorem b_X4_readBeside_84 {E : rhE} {Γ : rhG} : ∀ (M : rhM) (v0 : Nat) (v1 : Int32) (v3 : Int32), rhF E 9 5 yX4_readBeside cX4_readBeside none Γ (rhe1U Γ) (f_X4_readBeside_84 Γ M v0 v1 v3) 84 [(0, rhR v0), (1, rhI v1), (3, rhI v3)] [] Γ M := by
  intro M v0 v1 v3
  rw [f_X4_readBeside_84]
  refine rhF.aload_n (pc := 84) dX4_readBeside_84 0 rfl ?_
  refine rhF.bipush (pc := 85) (v := 9) dX4_readBeside_85 (by decide) ?_
  refine rhF.ck (fun h18 => ?_)
  refine rhF.callV (pc := 87) (ci := 4) (embc := rhe1U _) [rhI _] dX4_readBeside_87 ml_X4_154 mv_X4_takeWord ⟨_, rfl, rfl⟩ h18 (c_X4_takeWord _ _ _ _ _) (by decide) (by decide) rfl (Nat.le_of_ble_eq_true rfl) (fun r19 _ => ?_)
  refine rhF.aload_n (pc := 90) dX4_readBeside_90 0 rfl ?_
  refine rhF.bipush (pc := 91) (v := 99) dX4_readBeside_91 (by decide) ?_
  refine rhF.callV (pc := 93) (ci := 4) (embc := rhe1I _) [rhI _] dX4_readBeside_93 ml_X4_182 mv_X4_takeSignedNumber ⟨_, rfl, rfl⟩ h18 (c_X4_takeSignedNumber _ _ _ _ _) (by decide) (by decide) rfl (Nat.le_of_ble_eq_true rfl) (fun r20 _ => ?_)
  refine rhF.istore (pc := 96) (L' := [(4, rhI _), (0, rhR _), (1, rhI _), (3, rhI _)]) dX4_readBeside_96 (by decide) rfl ?_
  refine rhF.aload_n (pc := 98) dX4_readBeside_98 1 rfl ?_
  refine rhF.bipush (pc := 99) (v := 59) dX4_readBeside_99 (by decide) ?_
  refine rhF.callV (pc := 101) (ci := 4) (embc := rhe1U _) [rhI _] dX4_readBeside_101 ml_X4_158 mv_X4_takeSign ⟨_, rfl, rfl⟩ h18 (c_X4_takeSign _ _ _ _ _) (by decide) (by decide) rfl (Nat.le_of_ble_eq_true rfl) (fun r22 _ => ?_)
  refine rhF.aload_n (pc := 104) dX4_readBeside_104 1 rfl ?_
  refine rhF.get (pc := 105) (rhI _) dX4_readBeside_105 fl_X4_43 h18 rfl ?_
  refine rhF.if_ne (pc := 108) 122 dX4_readBeside_108 (by decide) (fun h23 => ?_) (fun h23 => ?_)
  · refine rhF.aload_n (pc := 111) dX4_readBeside_111 1 rfl ?_
    refine rhF.get (pc := 112) (rhR _) dX4_readBeside_112 fl_X4_73 h18 rfl ?_
    refine rhF.iload_n (pc := 115) dX4_readBeside_115 2 rfl ?_
    refine rhF.iload_n (pc := 116) dX4_readBeside_116 3 rfl ?_
    refine rhF.iload (pc := 117) dX4_readBeside_117 0 rfl ?_
    refine rhF.ck (fun h24 => ?_)
    refine rhF.callV (pc := 119) (ci := 9) (embc := rhe1U _) [rhI _, rhI _, rhI _] dX4_readBeside_119 ml_X4_186 mv_X9_addBeside ⟨_, rfl, rfl⟩ h24 (c_X9_addBeside _ _ _ _ _ _ _) (by decide) (by decide) rfl (Nat.le_of_ble_eq_true rfl) (fun r25 _ => ?_)
    exact rhF.vret (pc := 122) dX4_readBeside_122 rfl rfl
  · exact rhF.vret (pc := 122) dX4_readBeside_122 rfl rfl
set_option maxHeartbeats 4000000 in
set_option maxRecDepth 100000 in
theorem b_X4_readBeside_18 {E : rhE} {Γ : rhG} : ∀ (M : rhM) (v0 : Nat) (s0 : Nat) (s1 : Int32), rhF E 9 5 yX4_readBeside cX4_readBeside none Γ (rhe1U Γ) (f_X4_readBeside_18 Γ M v0 s0 s1) 18 [(0, rhR v0)] [rhI s1, rhR s0] Γ M := by
  intro M v0 s0 s1
  rw [f_X4_readBeside_18]
  refine rhF.ck (fun h4 => ?_)
  refine rhF.callV (pc := 18) (ci := 4) (embc := rhe1U _) [rhI _] dX4_readBeside_18 ml_X4_146 mv_X4_advanceUnless ⟨_, rfl, rfl⟩ h4 (c_X4_advanceUnless _ _ _ _ _) (by decide) (by decide) rfl (Nat.le_of_ble_eq_true rfl) (fun r5 _ => ?_)
  refine rhF.aload_n (pc := 21) dX4_readBeside_21 0 rfl ?_
  refine rhF.aload_n (pc := 22) dX4_readBeside_22 0 rfl ?_
  refine rhF.ck (fun h6 => ?_)
  refine rhF.get (pc := 23) (rhR _) dX4_readBeside_23 fl_X4_26 h6 rfl ?_
  refine rhF.aload_n (pc := 26) dX4_readBeside_26 0 rfl ?_
  refine rhF.get (pc := 27) (rhR _) dX4_readBeside_27 fl_X4_73 h6 rfl ?_
  refine rhF.ck (fun h7 => ?_)
  refine rhF.get (pc := 30) (rhI _) dX4_readBeside_30 fl_X4_118 h7 rfl ?_
  refine rhF.callV (pc := 33) (ci := 4) (embc := rhe1I _) [rhR _, rhI _] dX4_readBeside_33 ml_X4_164 mv_X4_takeToldName ⟨_, rfl, rfl⟩ h6 (c_X4_takeToldName _ _ _ _ _ _) (by decide) (by decide) rfl (Nat.le_of_ble_eq_true rfl) (fun r8 _ => ?_)
  refine rhF.istore_n (pc := 36) (L' := [(1, rhI _), (0, rhR _)]) dX4_readBeside_36 (by decide) rfl ?_
  refine rhF.aload_n (pc := 37) dX4_readBeside_37 1 rfl ?_
  refine rhF.get (pc := 38) (rhR _) dX4_readBeside_38 fl_X4_18 h6 rfl ?_
  refine rhF.ck (fun h10 => ?_)
  refine rhF.get (pc := 41) (rhI _) dX4_readBeside_41 fl_X4_121 h10 rfl ?_
  refine rhF.istore_n (pc := 44) (L' := [(2, rhI _), (1, rhI _), (0, rhR _)]) dX4_readBeside_44 (by decide) rfl ?_
  refine rhF.aload_n (pc := 45) dX4_readBeside_45 2 rfl ?_
  refine rhF.aload_n (pc := 46) dX4_readBeside_46 2 rfl ?_
  refine rhF.get (pc := 47) (rhR _) dX4_readBeside_47 fl_X4_26 h6 rfl ?_
  refine rhF.aload_n (pc := 50) dX4_readBeside_50 2 rfl ?_
  refine rhF.get (pc := 51) (rhR _) dX4_readBeside_51 fl_X4_73 h6 rfl ?_
  refine rhF.ck (fun h12 => ?_)
  refine rhF.get (pc := 54) (rhI _) dX4_readBeside_54 fl_X4_118 h12 rfl ?_
  refine rhF.callV (pc := 57) (ci := 4) (embc := rhe1I _) [rhR _, rhI _] dX4_readBeside_57 ml_X4_164 mv_X4_takeToldName ⟨_, rfl, rfl⟩ h6 (c_X4_takeToldName _ _ _ _ _ _) (by decide) (by decide) rfl (Nat.le_of_ble_eq_true rfl) (fun r13 _ => ?_)
  refine rhF.istore_n (pc := 60) (L' := [(3, rhI _), (2, rhI _), (1, rhI _), (0, rhR _)]) dX4_readBeside_60 (by decide) rfl ?_
  refine rhF.iload_n (pc := 61) dX4_readBeside_61 2 rfl ?_
  refine rhF.iload_n (pc := 62) dX4_readBeside_62 0 rfl ?_
  refine rhF.icmp_eq (pc := 63) 78 dX4_readBeside_63 (by decide) (fun h15 => ?_) (fun h15 => ?_)
  · refine rhF.sub [3, 2, 1, 0] rfl ?_
    exact (b_X4_readBeside_78 (b_X4_readBeside_84)) _ _ _ _ _
  · refine rhF.aload_n (pc := 66) dX4_readBeside_66 3 rfl ?_
    refine rhF.get (pc := 67) (rhR _) dX4_readBeside_67 fl_X4_73 h6 rfl ?_
    refine rhF.iload_n (pc := 70) dX4_readBeside_70 2 rfl ?_
    refine rhF.iload_n (pc := 71) dX4_readBeside_71 0 rfl ?_
    refine rhF.ck (fun h26 => ?_)
    refine rhF.callV (pc := 72) (ci := 9) (embc := rhe0I _ _) [rhI _, rhI _] dX4_readBeside_72 ml_X4_178 mv_X9_isTold ⟨_, rfl, rfl⟩ h26 (c_X9_isTold _ _ _ _ _ _) (by decide) (by decide) rfl (Nat.le_of_ble_eq_true rfl) (fun r27 _ => ?_)
    refine rhF.if_eq (pc := 75) 84 dX4_readBeside_75 (by decide) (fun h28 => ?_) (fun h28 => ?_)
    · refine rhF.sub [3, 2, 0] rfl ?_
      exact (b_X4_readBeside_84) _ _ _ _
    · refine rhF.sub [3, 2, 1, 0] rfl ?_
      exact (b_X4_readBeside_78 (b_X4_readBeside_84)) _ _ _ _ _
set_option maxHeartbeats 4000000 in
set_option maxRecDepth 100000 in
theorem b_X4_readBeside {E : rhE} {Γ : rhG} : ∀ (M : rhM) (v0 : Nat), rhF E 9 5 yX4_readBeside cX4_readBeside none Γ (rhe1U Γ) (f_X4_readBeside Γ M v0) 0 [(0, rhR v0)] [] Γ M := by
  intro M v0
  rw [f_X4_readBeside]
  refine rhF.aload_n (pc := 0) dX4_readBeside_0 0 rfl ?_
  refine rhF.aload_n (pc := 1) dX4_readBeside_1 0 rfl ?_
  refine rhF.ck (fun h1 => ?_)
  refine rhF.get (pc := 2) (rhR _) dX4_readBeside_2 fl_X4_73 h1 rfl ?_
  refine rhF.ck (fun h2 => ?_)
  refine rhF.get (pc := 5) (rhI _) dX4_readBeside_5 fl_X4_175 h2 rfl ?_
  refine rhF.bipush (pc := 8) (v := 20) dX4_readBeside_8 (by decide) ?_
  refine rhF.icmp_lt (pc := 10) 17 dX4_readBeside_10 (by decide) (fun h3 => ?_) (fun h3 => ?_)
  · refine rhF.iconst (pc := 17) (v := 0) dX4_readBeside_17 (by decide) ?_
    exact (b_X4_readBeside_18) _ _ _ _
  · refine rhF.iconst (pc := 13) (v := 1) dX4_readBeside_13 (by decide) ?_
    refine rhF.goto (pc := 14) 18 dX4_readBeside_14 (by decide) ?_
    exact (b_X4_readBeside_18) _ _ _ _
theorem c_X4_readBeside (E : rhE) (Γ : rhG) (M : rhM) (v0 : Nat) : ∀ a, f_X4_readBeside Γ M v0 = some a → rhC E 9 yX4_readBeside cX4_readBeside 5 none [rhR v0] Γ M ((rhe1U Γ) a) := rhF.met (by decide +kernel) (Nat.le_of_ble_eq_true rfl) (b_X4_readBeside M v0)
def f_X4_readBoth_7 (g_X4_readBoth : rhG → rhM → Nat → Int32 → Option (rhM)) (g_X4_readEither : rhG → rhM → Nat → Int32 → Option (rhM)) (g_X4_readNot : rhG → rhM → Nat → Int32 → Option (rhM)) (g_X4_readOne : rhG → rhM → Nat → Int32 → Option (rhM)) (g_X4_readSum : rhG → rhM → Nat → Int32 → Option (rhM)) (g_X4_readTerm : rhG → rhM → Nat → Int32 → Option (rhM)) (g_X4_readUnit : rhG → rhM → Nat → Int32 → Option (rhM)) (Γ : rhG) : Nat → rhM → Nat → Int32 → Int32 → Option (rhM)
  | 0, _, _, _, _ => none
  | n + 1, M, v0, v1, v2 =>
    if v2 < 40 then
      (rhck (Γ.2.2.1 v0 = 5) <|
      if (M.1 v0 0) = 0 then
        (rhck (Γ.2.2.1 (M.2.2 v0 2) = 9) <|
        if (M.1 (M.2.2 v0 2) 7) = 11 then
          ((f_X8_advance Γ M (M.2.2 v0 2)).bind fun r8 =>
          (g_X4_readOne Γ r8 v0 v1).bind fun r9 =>
          rhck (Γ.2.2.1 (r9.2.2 v0 11) = 2) <|
          (f_X1_addStep Γ r9 (r9.2.2 v0 11) (11 : Int32) (0 : Int32)).bind fun r11 =>
          let x12 : Int32 := v2 + 1
          f_X4_readBoth_7 g_X4_readBoth g_X4_readEither g_X4_readNot g_X4_readOne g_X4_readSum g_X4_readTerm g_X4_readUnit Γ n r11 v0 v1 x12)
        else
          some M)
      else
        some M)
    else
      some M
def f_X4_readBoth (g_X4_readBoth : rhG → rhM → Nat → Int32 → Option (rhM)) (g_X4_readEither : rhG → rhM → Nat → Int32 → Option (rhM)) (g_X4_readNot : rhG → rhM → Nat → Int32 → Option (rhM)) (g_X4_readOne : rhG → rhM → Nat → Int32 → Option (rhM)) (g_X4_readSum : rhG → rhM → Nat → Int32 → Option (rhM)) (g_X4_readTerm : rhG → rhM → Nat → Int32 → Option (rhM)) (g_X4_readUnit : rhG → rhM → Nat → Int32 → Option (rhM)) (Γ : rhG) (M : rhM) (v0 : Nat) (v1 : Int32) : Option (rhM) :=
  rhck (Γ.2.2.1 v0 = 5) <|
  (g_X4_readOne Γ M v0 v1).bind fun r2 =>
  f_X4_readBoth_7 g_X4_readBoth g_X4_readEither g_X4_readNot g_X4_readOne g_X4_readSum g_X4_readTerm g_X4_readUnit Γ rhFU r2 v0 v1 0
def f_X4_readEither_7 (g_X4_readBoth : rhG → rhM → Nat → Int32 → Option (rhM)) (g_X4_readEither : rhG → rhM → Nat → Int32 → Option (rhM)) (g_X4_readNot : rhG → rhM → Nat → Int32 → Option (rhM)) (g_X4_readOne : rhG → rhM → Nat → Int32 → Option (rhM)) (g_X4_readSum : rhG → rhM → Nat → Int32 → Option (rhM)) (g_X4_readTerm : rhG → rhM → Nat → Int32 → Option (rhM)) (g_X4_readUnit : rhG → rhM → Nat → Int32 → Option (rhM)) (Γ : rhG) : Nat → rhM → Nat → Int32 → Int32 → Option (rhM)
  | 0, _, _, _, _ => none
  | n + 1, M, v0, v1, v2 =>
    if v2 < 40 then
      (rhck (Γ.2.2.1 v0 = 5) <|
      if (M.1 v0 0) = 0 then
        (rhck (Γ.2.2.1 (M.2.2 v0 2) = 9) <|
        if (M.1 (M.2.2 v0 2) 7) = 10 then
          ((f_X8_advance Γ M (M.2.2 v0 2)).bind fun r8 =>
          (g_X4_readBoth Γ r8 v0 v1).bind fun r9 =>
          rhck (Γ.2.2.1 (r9.2.2 v0 11) = 2) <|
          (f_X1_addStep Γ r9 (r9.2.2 v0 11) (10 : Int32) (0 : Int32)).bind fun r11 =>
          let x12 : Int32 := v2 + 1
          f_X4_readEither_7 g_X4_readBoth g_X4_readEither g_X4_readNot g_X4_readOne g_X4_readSum g_X4_readTerm g_X4_readUnit Γ n r11 v0 v1 x12)
        else
          some M)
      else
        some M)
    else
      some M
def f_X4_readEither (g_X4_readBoth : rhG → rhM → Nat → Int32 → Option (rhM)) (g_X4_readEither : rhG → rhM → Nat → Int32 → Option (rhM)) (g_X4_readNot : rhG → rhM → Nat → Int32 → Option (rhM)) (g_X4_readOne : rhG → rhM → Nat → Int32 → Option (rhM)) (g_X4_readSum : rhG → rhM → Nat → Int32 → Option (rhM)) (g_X4_readTerm : rhG → rhM → Nat → Int32 → Option (rhM)) (g_X4_readUnit : rhG → rhM → Nat → Int32 → Option (rhM)) (Γ : rhG) (M : rhM) (v0 : Nat) (v1 : Int32) : Option (rhM) :=
  rhck (Γ.2.2.1 v0 = 5) <|
  (g_X4_readBoth Γ M v0 v1).bind fun r2 =>
  f_X4_readEither_7 g_X4_readBoth g_X4_readEither g_X4_readNot g_X4_readOne g_X4_readSum g_X4_readTerm g_X4_readUnit Γ rhFU r2 v0 v1 0
def f_X4_readNot_12 (g_X4_readBoth : rhG → rhM → Nat → Int32 → Option (rhM)) (g_X4_readEither : rhG → rhM → Nat → Int32 → Option (rhM)) (g_X4_readNot : rhG → rhM → Nat → Int32 → Option (rhM)) (g_X4_readOne : rhG → rhM → Nat → Int32 → Option (rhM)) (g_X4_readSum : rhG → rhM → Nat → Int32 → Option (rhM)) (g_X4_readTerm : rhG → rhM → Nat → Int32 → Option (rhM)) (g_X4_readUnit : rhG → rhM → Nat → Int32 → Option (rhM)) (Γ : rhG) (M : rhM) (v0 : Nat) (v1 : Int32) (s0 : Nat) (s1 : Int32) : Option (rhM) :=
  rhck (Γ.2.2.1 s0 = 5) <|
  (f_X4_advanceUnless Γ M s0 s1).bind fun r3 =>
  rhck (Γ.2.2.1 v0 = 5) <|
  if (r3.1 v0 0) = 0 then
    ((g_X4_readOne Γ r3 v0 (v1 + 1)).bind fun r6 =>
    rhck (Γ.2.2.1 (r6.2.2 v0 11) = 2) <|
    (f_X1_addStep Γ r6 (r6.2.2 v0 11) (12 : Int32) (0 : Int32)).bind fun r8 =>
    some r8)
  else
    some r3
def f_X4_readNot (g_X4_readBoth : rhG → rhM → Nat → Int32 → Option (rhM)) (g_X4_readEither : rhG → rhM → Nat → Int32 → Option (rhM)) (g_X4_readNot : rhG → rhM → Nat → Int32 → Option (rhM)) (g_X4_readOne : rhG → rhM → Nat → Int32 → Option (rhM)) (g_X4_readSum : rhG → rhM → Nat → Int32 → Option (rhM)) (g_X4_readTerm : rhG → rhM → Nat → Int32 → Option (rhM)) (g_X4_readUnit : rhG → rhM → Nat → Int32 → Option (rhM)) (Γ : rhG) (M : rhM) (v0 : Nat) (v1 : Int32) : Option (rhM) :=
  if v1 < 7 then
    (f_X4_readNot_12 g_X4_readBoth g_X4_readEither g_X4_readNot g_X4_readOne g_X4_readSum g_X4_readTerm g_X4_readUnit Γ M v0 v1 v0 0)
  else
    f_X4_readNot_12 g_X4_readBoth g_X4_readEither g_X4_readNot g_X4_readOne g_X4_readSum g_X4_readTerm g_X4_readUnit Γ M v0 v1 v0 1
def f_X4_readOne_56 (g_X4_readBoth : rhG → rhM → Nat → Int32 → Option (rhM)) (g_X4_readEither : rhG → rhM → Nat → Int32 → Option (rhM)) (g_X4_readNot : rhG → rhM → Nat → Int32 → Option (rhM)) (g_X4_readOne : rhG → rhM → Nat → Int32 → Option (rhM)) (g_X4_readSum : rhG → rhM → Nat → Int32 → Option (rhM)) (g_X4_readTerm : rhG → rhM → Nat → Int32 → Option (rhM)) (g_X4_readUnit : rhG → rhM → Nat → Int32 → Option (rhM)) (Γ : rhG) (M : rhM) (v0 : Nat) (v1 : Int32) (v2 : Int32) : Option (rhM) :=
  rhck (Γ.2.2.1 v0 = 5) <|
  rhck (Γ.2.2.1 (M.2.2 v0 2) = 9) <|
  (f_X8_advance Γ M (M.2.2 v0 2)).bind fun r12 =>
  (g_X4_readSum Γ r12 v0 v1).bind fun r13 =>
  rhck (Γ.2.2.1 (r13.2.2 v0 11) = 2) <|
  (f_X1_addStep Γ r13 (r13.2.2 v0 11) v2 (0 : Int32)).bind fun r15 =>
  some r15
def f_X4_readOne (g_X4_readBoth : rhG → rhM → Nat → Int32 → Option (rhM)) (g_X4_readEither : rhG → rhM → Nat → Int32 → Option (rhM)) (g_X4_readNot : rhG → rhM → Nat → Int32 → Option (rhM)) (g_X4_readOne : rhG → rhM → Nat → Int32 → Option (rhM)) (g_X4_readSum : rhG → rhM → Nat → Int32 → Option (rhM)) (g_X4_readTerm : rhG → rhM → Nat → Int32 → Option (rhM)) (g_X4_readUnit : rhG → rhM → Nat → Int32 → Option (rhM)) (Γ : rhG) (M : rhM) (v0 : Nat) (v1 : Int32) : Option (rhM) :=
  rhck (Γ.2.2.1 v0 = 5) <|
  rhck (Γ.2.2.1 (M.2.2 v0 2) = 9) <|
  if (M.1 (M.2.2 v0 2) 7) = 12 then
    ((g_X4_readNot Γ M v0 v1).bind fun r4 =>
    some r4)
  else
    (g_X4_readSum Γ M v0 v1).bind fun r5 =>
    rhck (Γ.2.2.1 (r5.2.2 v0 2) = 9) <|
    let x7 := r5.1 (r5.2.2 v0 2) 9
    if (r5.1 v0 0) = 0 then
      (if x7 = 60 then
        (f_X4_readOne_56 g_X4_readBoth g_X4_readEither g_X4_readNot g_X4_readOne g_X4_readSum g_X4_readTerm g_X4_readUnit Γ r5 v0 v1 x7)
      else
        if x7 = 62 then
          (f_X4_readOne_56 g_X4_readBoth g_X4_readEither g_X4_readNot g_X4_readOne g_X4_readSum g_X4_readTerm g_X4_readUnit Γ r5 v0 v1 x7)
        else
          if x7 = 61 then
            (f_X4_readOne_56 g_X4_readBoth g_X4_readEither g_X4_readNot g_X4_readOne g_X4_readSum g_X4_readTerm g_X4_readUnit Γ r5 v0 v1 x7)
          else
            some r5)
    else
      some r5
def f_X4_readSum_40 (g_X4_readBoth : rhG → rhM → Nat → Int32 → Option (rhM)) (g_X4_readEither : rhG → rhM → Nat → Int32 → Option (rhM)) (g_X4_readNot : rhG → rhM → Nat → Int32 → Option (rhM)) (g_X4_readOne : rhG → rhM → Nat → Int32 → Option (rhM)) (g_X4_readSum : rhG → rhM → Nat → Int32 → Option (rhM)) (g_X4_readTerm : rhG → rhM → Nat → Int32 → Option (rhM)) (g_X4_readUnit : rhG → rhM → Nat → Int32 → Option (rhM)) (k15 : rhM → Nat → Int32 → Int32 → Int32 → Option (rhM)) (Γ : rhG) (M : rhM) (v0 : Nat) (v1 : Int32) (v2 : Int32) (v3 : Int32) : Option (rhM) :=
  rhck (Γ.2.2.1 v0 = 5) <|
  rhck (Γ.2.2.1 (M.2.2 v0 2) = 9) <|
  (f_X8_advance Γ M (M.2.2 v0 2)).bind fun r11 =>
  (g_X4_readTerm Γ r11 v0 v1).bind fun r12 =>
  rhck (Γ.2.2.1 (r12.2.2 v0 11) = 2) <|
  (f_X1_addStep Γ r12 (r12.2.2 v0 11) v2 (0 : Int32)).bind fun r14 =>
  rhck (Γ.2.2.1 (r14.2.2 v0 2) = 9) <|
  let x16 := r14.1 (r14.2.2 v0 2) 9
  let x17 : Int32 := v3 + 1
  k15 r14 v0 v1 x16 x17
def f_X4_readSum_15 (g_X4_readBoth : rhG → rhM → Nat → Int32 → Option (rhM)) (g_X4_readEither : rhG → rhM → Nat → Int32 → Option (rhM)) (g_X4_readNot : rhG → rhM → Nat → Int32 → Option (rhM)) (g_X4_readOne : rhG → rhM → Nat → Int32 → Option (rhM)) (g_X4_readSum : rhG → rhM → Nat → Int32 → Option (rhM)) (g_X4_readTerm : rhG → rhM → Nat → Int32 → Option (rhM)) (g_X4_readUnit : rhG → rhM → Nat → Int32 → Option (rhM)) (Γ : rhG) : Nat → rhM → Nat → Int32 → Int32 → Int32 → Option (rhM)
  | 0, _, _, _, _, _ => none
  | n + 1, M, v0, v1, v2, v3 =>
    if v3 < 40 then
      (rhck (Γ.2.2.1 v0 = 5) <|
      if (M.1 v0 0) = 0 then
        (if v2 = 43 then
          (f_X4_readSum_40 g_X4_readBoth g_X4_readEither g_X4_readNot g_X4_readOne g_X4_readSum g_X4_readTerm g_X4_readUnit (f_X4_readSum_15 g_X4_readBoth g_X4_readEither g_X4_readNot g_X4_readOne g_X4_readSum g_X4_readTerm g_X4_readUnit Γ n) Γ M v0 v1 v2 v3)
        else
          if v2 = 45 then
            (f_X4_readSum_40 g_X4_readBoth g_X4_readEither g_X4_readNot g_X4_readOne g_X4_readSum g_X4_readTerm g_X4_readUnit (f_X4_readSum_15 g_X4_readBoth g_X4_readEither g_X4_readNot g_X4_readOne g_X4_readSum g_X4_readTerm g_X4_readUnit Γ n) Γ M v0 v1 v2 v3)
          else
            some M)
      else
        some M)
    else
      some M
def f_X4_readSum (g_X4_readBoth : rhG → rhM → Nat → Int32 → Option (rhM)) (g_X4_readEither : rhG → rhM → Nat → Int32 → Option (rhM)) (g_X4_readNot : rhG → rhM → Nat → Int32 → Option (rhM)) (g_X4_readOne : rhG → rhM → Nat → Int32 → Option (rhM)) (g_X4_readSum : rhG → rhM → Nat → Int32 → Option (rhM)) (g_X4_readTerm : rhG → rhM → Nat → Int32 → Option (rhM)) (g_X4_readUnit : rhG → rhM → Nat → Int32 → Option (rhM)) (Γ : rhG) (M : rhM) (v0 : Nat) (v1 : Int32) : Option (rhM) :=
  rhck (Γ.2.2.1 v0 = 5) <|
  (g_X4_readTerm Γ M v0 v1).bind fun r2 =>
  rhck (Γ.2.2.1 (r2.2.2 v0 2) = 9) <|
  let x4 := r2.1 (r2.2.2 v0 2) 9
  f_X4_readSum_15 g_X4_readBoth g_X4_readEither g_X4_readNot g_X4_readOne g_X4_readSum g_X4_readTerm g_X4_readUnit Γ rhFU r2 v0 v1 x4 0
def f_X4_readTerm_40 (g_X4_readBoth : rhG → rhM → Nat → Int32 → Option (rhM)) (g_X4_readEither : rhG → rhM → Nat → Int32 → Option (rhM)) (g_X4_readNot : rhG → rhM → Nat → Int32 → Option (rhM)) (g_X4_readOne : rhG → rhM → Nat → Int32 → Option (rhM)) (g_X4_readSum : rhG → rhM → Nat → Int32 → Option (rhM)) (g_X4_readTerm : rhG → rhM → Nat → Int32 → Option (rhM)) (g_X4_readUnit : rhG → rhM → Nat → Int32 → Option (rhM)) (k15 : rhM → Nat → Int32 → Int32 → Int32 → Option (rhM)) (Γ : rhG) (M : rhM) (v0 : Nat) (v1 : Int32) (v2 : Int32) (v3 : Int32) : Option (rhM) :=
  rhck (Γ.2.2.1 v0 = 5) <|
  rhck (Γ.2.2.1 (M.2.2 v0 2) = 9) <|
  (f_X8_advance Γ M (M.2.2 v0 2)).bind fun r11 =>
  (g_X4_readUnit Γ r11 v0 v1).bind fun r12 =>
  rhck (Γ.2.2.1 (r12.2.2 v0 11) = 2) <|
  (f_X1_addStep Γ r12 (r12.2.2 v0 11) v2 (0 : Int32)).bind fun r14 =>
  rhck (Γ.2.2.1 (r14.2.2 v0 2) = 9) <|
  let x16 := r14.1 (r14.2.2 v0 2) 9
  let x17 : Int32 := v3 + 1
  k15 r14 v0 v1 x16 x17
def f_X4_readTerm_15 (g_X4_readBoth : rhG → rhM → Nat → Int32 → Option (rhM)) (g_X4_readEither : rhG → rhM → Nat → Int32 → Option (rhM)) (g_X4_readNot : rhG → rhM → Nat → Int32 → Option (rhM)) (g_X4_readOne : rhG → rhM → Nat → Int32 → Option (rhM)) (g_X4_readSum : rhG → rhM → Nat → Int32 → Option (rhM)) (g_X4_readTerm : rhG → rhM → Nat → Int32 → Option (rhM)) (g_X4_readUnit : rhG → rhM → Nat → Int32 → Option (rhM)) (Γ : rhG) : Nat → rhM → Nat → Int32 → Int32 → Int32 → Option (rhM)
  | 0, _, _, _, _, _ => none
  | n + 1, M, v0, v1, v2, v3 =>
    if v3 < 40 then
      (rhck (Γ.2.2.1 v0 = 5) <|
      if (M.1 v0 0) = 0 then
        (if v2 = 42 then
          (f_X4_readTerm_40 g_X4_readBoth g_X4_readEither g_X4_readNot g_X4_readOne g_X4_readSum g_X4_readTerm g_X4_readUnit (f_X4_readTerm_15 g_X4_readBoth g_X4_readEither g_X4_readNot g_X4_readOne g_X4_readSum g_X4_readTerm g_X4_readUnit Γ n) Γ M v0 v1 v2 v3)
        else
          if v2 = 47 then
            (f_X4_readTerm_40 g_X4_readBoth g_X4_readEither g_X4_readNot g_X4_readOne g_X4_readSum g_X4_readTerm g_X4_readUnit (f_X4_readTerm_15 g_X4_readBoth g_X4_readEither g_X4_readNot g_X4_readOne g_X4_readSum g_X4_readTerm g_X4_readUnit Γ n) Γ M v0 v1 v2 v3)
          else
            some M)
      else
        some M)
    else
      some M
def f_X4_readTerm (g_X4_readBoth : rhG → rhM → Nat → Int32 → Option (rhM)) (g_X4_readEither : rhG → rhM → Nat → Int32 → Option (rhM)) (g_X4_readNot : rhG → rhM → Nat → Int32 → Option (rhM)) (g_X4_readOne : rhG → rhM → Nat → Int32 → Option (rhM)) (g_X4_readSum : rhG → rhM → Nat → Int32 → Option (rhM)) (g_X4_readTerm : rhG → rhM → Nat → Int32 → Option (rhM)) (g_X4_readUnit : rhG → rhM → Nat → Int32 → Option (rhM)) (Γ : rhG) (M : rhM) (v0 : Nat) (v1 : Int32) : Option (rhM) :=
  rhck (Γ.2.2.1 v0 = 5) <|
  (g_X4_readUnit Γ M v0 v1).bind fun r2 =>
  rhck (Γ.2.2.1 (r2.2.2 v0 2) = 9) <|
  let x4 := r2.1 (r2.2.2 v0 2) 9
  f_X4_readTerm_15 g_X4_readBoth g_X4_readEither g_X4_readNot g_X4_readOne g_X4_readSum g_X4_readTerm g_X4_readUnit Γ rhFU r2 v0 v1 x4 0
def f_X4_readUnit_201 (g_X4_readBoth : rhG → rhM → Nat → Int32 → Option (rhM)) (g_X4_readEither : rhG → rhM → Nat → Int32 → Option (rhM)) (g_X4_readNot : rhG → rhM → Nat → Int32 → Option (rhM)) (g_X4_readOne : rhG → rhM → Nat → Int32 → Option (rhM)) (g_X4_readSum : rhG → rhM → Nat → Int32 → Option (rhM)) (g_X4_readTerm : rhG → rhM → Nat → Int32 → Option (rhM)) (g_X4_readUnit : rhG → rhM → Nat → Int32 → Option (rhM)) (Γ : rhG) (M : rhM) (v0 : Nat) : Option (rhM) :=
  rhck (Γ.2.2.1 v0 = 5) <|
  (f_X4_refuse Γ M v0).bind fun r25 =>
  some r25
def f_X4_readUnit_19 (g_X4_readBoth : rhG → rhM → Nat → Int32 → Option (rhM)) (g_X4_readEither : rhG → rhM → Nat → Int32 → Option (rhM)) (g_X4_readNot : rhG → rhM → Nat → Int32 → Option (rhM)) (g_X4_readOne : rhG → rhM → Nat → Int32 → Option (rhM)) (g_X4_readSum : rhG → rhM → Nat → Int32 → Option (rhM)) (g_X4_readTerm : rhG → rhM → Nat → Int32 → Option (rhM)) (g_X4_readUnit : rhG → rhM → Nat → Int32 → Option (rhM)) (Γ : rhG) (M : rhM) (v0 : Nat) : Option (rhM) :=
  rhck (Γ.2.2.1 v0 = 5) <|
  (f_X4_refuse Γ M v0).bind fun r30 =>
  some r30
def f_X4_readUnit (g_X4_readBoth : rhG → rhM → Nat → Int32 → Option (rhM)) (g_X4_readEither : rhG → rhM → Nat → Int32 → Option (rhM)) (g_X4_readNot : rhG → rhM → Nat → Int32 → Option (rhM)) (g_X4_readOne : rhG → rhM → Nat → Int32 → Option (rhM)) (g_X4_readSum : rhG → rhM → Nat → Int32 → Option (rhM)) (g_X4_readTerm : rhG → rhM → Nat → Int32 → Option (rhM)) (g_X4_readUnit : rhG → rhM → Nat → Int32 → Option (rhM)) (Γ : rhG) (M : rhM) (v0 : Nat) (v1 : Int32) : Option (rhM) :=
  rhck (Γ.2.2.1 v0 = 5) <|
  if (M.1 v0 0) = 0 then
    (rhck (Γ.2.2.1 (M.2.2 v0 11) = 2) <|
    if (M.1 (M.2.2 v0 11) 0) < 40 then
      (rhck (Γ.2.2.1 (M.2.2 v0 2) = 9) <|
      if (M.1 (M.2.2 v0 2) 4) = 4 then
        ((f_X1_addUnit Γ M (M.2.2 v0 11) (48 : Int32) (M.1 (M.2.2 v0 2) 8)).bind fun r7 =>
        rhck (Γ.2.2.1 (r7.2.2 v0 2) = 9) <|
        (f_X8_advance Γ r7 (r7.2.2 v0 2)).bind fun r9 =>
        some r9)
      else
        if (M.1 (M.2.2 v0 2) 7) = 17 then
          ((f_X8_advance Γ M (M.2.2 v0 2)).bind fun r11 =>
          rhck (Γ.2.2.1 (r11.2.2 v0 10) = 10) <|
          (f_X4_takeToldName Γ r11 v0 (r11.2.2 v0 4) (r11.1 (r11.2.2 v0 10) 1)).bind fun r13 =>
          rhck (Γ.2.2.1 (r11.2.2 v0 11) = 2) <|
          (f_X1_addUnit Γ r13.2 (r11.2.2 v0 11) (17 : Int32) r13.1).bind fun r15 =>
          some r15)
        else
          (f_X1_isGiven Γ M (M.1 (M.2.2 v0 2) 7)).bind fun r16 =>
          if r16 = 0 then
            (if (M.1 (M.2.2 v0 2) 9) = 40 then
              (if v1 < 7 then
                (let M20 := rhsi M (M.2.2 v0 11) 0 ((M.1 (M.2.2 v0 11) 0) + 1)
                (f_X8_advance Γ M20 (M.2.2 v0 2)).bind fun r21 =>
                (g_X4_readEither Γ r21 v0 (v1 + 1)).bind fun r22 =>
                (f_X4_takeSign Γ r22 v0 (41 : Int32)).bind fun r23 =>
                some r23)
              else
                f_X4_readUnit_201 g_X4_readBoth g_X4_readEither g_X4_readNot g_X4_readOne g_X4_readSum g_X4_readTerm g_X4_readUnit Γ M v0)
            else
              f_X4_readUnit_201 g_X4_readBoth g_X4_readEither g_X4_readNot g_X4_readOne g_X4_readSum g_X4_readTerm g_X4_readUnit Γ M v0)
          else
            (f_X1_addUnit Γ M (M.2.2 v0 11) (M.1 (M.2.2 v0 2) 7) (0 : Int32)).bind fun r26 =>
            rhck (Γ.2.2.1 (r26.2.2 v0 2) = 9) <|
            (f_X8_advance Γ r26 (r26.2.2 v0 2)).bind fun r28 =>
            some r28)
    else
      f_X4_readUnit_19 g_X4_readBoth g_X4_readEither g_X4_readNot g_X4_readOne g_X4_readSum g_X4_readTerm g_X4_readUnit Γ M v0)
  else
    f_X4_readUnit_19 g_X4_readBoth g_X4_readEither g_X4_readNot g_X4_readOne g_X4_readSum g_X4_readTerm g_X4_readUnit Γ M v0
def F_X4_readBoth : Nat → (rhG → rhM → Nat → Int32 → Option (rhM)) × (rhG → rhM → Nat → Int32 → Option (rhM)) × (rhG → rhM → Nat → Int32 → Option (rhM)) × (rhG → rhM → Nat → Int32 → Option (rhM)) × (rhG → rhM → Nat → Int32 → Option (rhM)) × (rhG → rhM → Nat → Int32 → Option (rhM)) × (rhG → rhM → Nat → Int32 → Option (rhM))
  | 0 => (fun _ _ _ _ => none, fun _ _ _ _ => none, fun _ _ _ _ => none, fun _ _ _ _ => none, fun _ _ _ _ => none, fun _ _ _ _ => none, fun _ _ _ _ => none)
  | n + 1 => (fun Γ M v0 v1 => f_X4_readBoth ((F_X4_readBoth n).1) ((F_X4_readBoth n).2.1) ((F_X4_readBoth n).2.2.1) ((F_X4_readBoth n).2.2.2.1) ((F_X4_readBoth n).2.2.2.2.1) ((F_X4_readBoth n).2.2.2.2.2.1) ((F_X4_readBoth n).2.2.2.2.2.2) Γ M v0 v1, fun Γ M v0 v1 => f_X4_readEither ((F_X4_readBoth n).1) ((F_X4_readBoth n).2.1) ((F_X4_readBoth n).2.2.1) ((F_X4_readBoth n).2.2.2.1) ((F_X4_readBoth n).2.2.2.2.1) ((F_X4_readBoth n).2.2.2.2.2.1) ((F_X4_readBoth n).2.2.2.2.2.2) Γ M v0 v1, fun Γ M v0 v1 => f_X4_readNot ((F_X4_readBoth n).1) ((F_X4_readBoth n).2.1) ((F_X4_readBoth n).2.2.1) ((F_X4_readBoth n).2.2.2.1) ((F_X4_readBoth n).2.2.2.2.1) ((F_X4_readBoth n).2.2.2.2.2.1) ((F_X4_readBoth n).2.2.2.2.2.2) Γ M v0 v1, fun Γ M v0 v1 => f_X4_readOne ((F_X4_readBoth n).1) ((F_X4_readBoth n).2.1) ((F_X4_readBoth n).2.2.1) ((F_X4_readBoth n).2.2.2.1) ((F_X4_readBoth n).2.2.2.2.1) ((F_X4_readBoth n).2.2.2.2.2.1) ((F_X4_readBoth n).2.2.2.2.2.2) Γ M v0 v1, fun Γ M v0 v1 => f_X4_readSum ((F_X4_readBoth n).1) ((F_X4_readBoth n).2.1) ((F_X4_readBoth n).2.2.1) ((F_X4_readBoth n).2.2.2.1) ((F_X4_readBoth n).2.2.2.2.1) ((F_X4_readBoth n).2.2.2.2.2.1) ((F_X4_readBoth n).2.2.2.2.2.2) Γ M v0 v1, fun Γ M v0 v1 => f_X4_readTerm ((F_X4_readBoth n).1) ((F_X4_readBoth n).2.1) ((F_X4_readBoth n).2.2.1) ((F_X4_readBoth n).2.2.2.1) ((F_X4_readBoth n).2.2.2.2.1) ((F_X4_readBoth n).2.2.2.2.2.1) ((F_X4_readBoth n).2.2.2.2.2.2) Γ M v0 v1, fun Γ M v0 v1 => f_X4_readUnit ((F_X4_readBoth n).1) ((F_X4_readBoth n).2.1) ((F_X4_readBoth n).2.2.1) ((F_X4_readBoth n).2.2.2.1) ((F_X4_readBoth n).2.2.2.2.1) ((F_X4_readBoth n).2.2.2.2.2.1) ((F_X4_readBoth n).2.2.2.2.2.2) Γ M v0 v1)
set_option maxHeartbeats 4000000 in
set_option maxRecDepth 100000 in
theorem b_X4_readBoth_7 {E : rhE} {dp : Nat} {g_X4_readBoth : rhG → rhM → Nat → Int32 → Option (rhM)} {g_X4_readEither : rhG → rhM → Nat → Int32 → Option (rhM)} {g_X4_readNot : rhG → rhM → Nat → Int32 → Option (rhM)} {g_X4_readOne : rhG → rhM → Nat → Int32 → Option (rhM)} {g_X4_readSum : rhG → rhM → Nat → Int32 → Option (rhM)} {g_X4_readTerm : rhG → rhM → Nat → Int32 → Option (rhM)} {g_X4_readUnit : rhG → rhM → Nat → Int32 → Option (rhM)} {Γ : rhG} (hg_X4_readBoth : ∀ (Γ : rhG) (M : rhM) (v0 : Nat) (v1 : Int32) (a : rhM), g_X4_readBoth Γ M v0 v1 = some a → rhC E (8 + dp) yX4_readBoth cX4_readBoth 3 none [rhR v0, rhI v1] Γ M ((rhe1U Γ) a)) (hg_X4_readEither : ∀ (Γ : rhG) (M : rhM) (v0 : Nat) (v1 : Int32) (a : rhM), g_X4_readEither Γ M v0 v1 = some a → rhC E (8 + dp) yX4_readEither cX4_readEither 3 none [rhR v0, rhI v1] Γ M ((rhe1U Γ) a)) (hg_X4_readNot : ∀ (Γ : rhG) (M : rhM) (v0 : Nat) (v1 : Int32) (a : rhM), g_X4_readNot Γ M v0 v1 = some a → rhC E (8 + dp) yX4_readNot cX4_readNot 2 none [rhR v0, rhI v1] Γ M ((rhe1U Γ) a)) (hg_X4_readOne : ∀ (Γ : rhG) (M : rhM) (v0 : Nat) (v1 : Int32) (a : rhM), g_X4_readOne Γ M v0 v1 = some a → rhC E (8 + dp) yX4_readOne cX4_readOne 3 none [rhR v0, rhI v1] Γ M ((rhe1U Γ) a)) (hg_X4_readSum : ∀ (Γ : rhG) (M : rhM) (v0 : Nat) (v1 : Int32) (a : rhM), g_X4_readSum Γ M v0 v1 = some a → rhC E (8 + dp) yX4_readSum cX4_readSum 4 none [rhR v0, rhI v1] Γ M ((rhe1U Γ) a)) (hg_X4_readTerm : ∀ (Γ : rhG) (M : rhM) (v0 : Nat) (v1 : Int32) (a : rhM), g_X4_readTerm Γ M v0 v1 = some a → rhC E (8 + dp) yX4_readTerm cX4_readTerm 4 none [rhR v0, rhI v1] Γ M ((rhe1U Γ) a)) (hg_X4_readUnit : ∀ (Γ : rhG) (M : rhM) (v0 : Nat) (v1 : Int32) (a : rhM), g_X4_readUnit Γ M v0 v1 = some a → rhC E (8 + dp) yX4_readUnit cX4_readUnit 2 none [rhR v0, rhI v1] Γ M ((rhe1U Γ) a)) : ∀ (n : Nat) (M : rhM) (v0 : Nat) (v1 : Int32) (v2 : Int32), rhF E (8 + (dp + 1)) 3 yX4_readBoth cX4_readBoth none Γ (rhe1U Γ) (f_X4_readBoth_7 g_X4_readBoth g_X4_readEither g_X4_readNot g_X4_readOne g_X4_readSum g_X4_readTerm g_X4_readUnit Γ n M v0 v1 v2) 7 [(0, rhR v0), (1, rhI v1), (2, rhI v2)] [] Γ M := by
  intro n
  induction n with
  | zero => intro M v0 v1 v2; rw [f_X4_readBoth_7]; exact rhF.nope
  | succ n ih =>
    intro M v0 v1 v2
    rw [f_X4_readBoth_7]
    refine rhF.iload_n (pc := 7) dX4_readBoth_7 2 rfl ?_
    refine rhF.bipush (pc := 8) (v := 40) dX4_readBoth_8 (by decide) ?_
    refine rhF.icmp_ge (pc := 10) 60 dX4_readBoth_10 (by decide) (fun h3 => ?_) (fun h3 => ?_)
    · refine rhF.aload_n (pc := 13) dX4_readBoth_13 0 rfl ?_
      refine rhF.ck (fun h4 => ?_)
      refine rhF.get (pc := 14) (rhI _) dX4_readBoth_14 fl_X4_43 h4 rfl ?_
      refine rhF.if_ne (pc := 17) 60 dX4_readBoth_17 (by decide) (fun h5 => ?_) (fun h5 => ?_)
      · refine rhF.aload_n (pc := 20) dX4_readBoth_20 0 rfl ?_
        refine rhF.get (pc := 21) (rhR _) dX4_readBoth_21 fl_X4_18 h4 rfl ?_
        refine rhF.ck (fun h6 => ?_)
        refine rhF.get (pc := 24) (rhI _) dX4_readBoth_24 fl_X4_49 h6 rfl ?_
        refine rhF.bipush (pc := 27) (v := 11) dX4_readBoth_27 (by decide) ?_
        refine rhF.icmp_ne (pc := 29) 60 dX4_readBoth_29 (by decide) (fun h7 => ?_) (fun h7 => ?_)
        · refine rhF.aload_n (pc := 32) dX4_readBoth_32 0 rfl ?_
          refine rhF.get (pc := 33) (rhR _) dX4_readBoth_33 fl_X4_18 h4 rfl ?_
          refine rhF.callV (pc := 36) (ci := 8) (embc := rhe1U _) [] dX4_readBoth_36 ml_X4_126 mv_X8_advance ⟨_, rfl, rfl⟩ h6 (c_X8_advance _ _ _ _) (by omega) (by decide) rfl (Nat.le_of_ble_eq_true rfl) (fun r8 _ => ?_)
          refine rhF.aload_n (pc := 39) dX4_readBoth_39 0 rfl ?_
          refine rhF.iload_n (pc := 40) dX4_readBoth_40 1 rfl ?_
          refine rhF.callV (pc := 41) (ci := 4) (embc := rhe1U _) [rhI _] dX4_readBoth_41 ml_X4_207 mv_X4_readOne ⟨_, rfl, rfl⟩ h4 (hg_X4_readOne _ _ _ _) (by omega) (by decide) rfl (Nat.le_of_ble_eq_true rfl) (fun r9 _ => ?_)
          refine rhF.aload_n (pc := 44) dX4_readBoth_44 0 rfl ?_
          refine rhF.get (pc := 45) (rhR _) dX4_readBoth_45 fl_X4_91 h4 rfl ?_
          refine rhF.bipush (pc := 48) (v := 11) dX4_readBoth_48 (by decide) ?_
          refine rhF.iconst (pc := 50) (v := 0) dX4_readBoth_50 (by decide) ?_
          refine rhF.ck (fun h10 => ?_)
          refine rhF.callV (pc := 51) (ci := 1) (embc := rhe1U _) [rhI _, rhI _] dX4_readBoth_51 ml_X4_202 mv_X1_addStep ⟨_, rfl, rfl⟩ h10 (c_X1_addStep _ _ _ _ _ _) (by omega) (by decide) rfl (Nat.le_of_ble_eq_true rfl) (fun r11 _ => ?_)
          refine rhF.iinc (pc := 54) (L' := [(2, rhI _), (0, rhR _), (1, rhI _)]) dX4_readBoth_54 2 rfl rfl (by decide) rfl ?_
          refine rhF.goto (pc := 57) 7 dX4_readBoth_57 (by decide) ?_
          refine rhF.sub [1, 2, 0] rfl ?_
          exact ih _ _ _ _
        · exact rhF.vret (pc := 60) dX4_readBoth_60 rfl rfl
      · exact rhF.vret (pc := 60) dX4_readBoth_60 rfl rfl
    · exact rhF.vret (pc := 60) dX4_readBoth_60 rfl rfl
set_option maxHeartbeats 4000000 in
set_option maxRecDepth 100000 in
theorem b_X4_readBoth {E : rhE} {dp : Nat} {g_X4_readBoth : rhG → rhM → Nat → Int32 → Option (rhM)} {g_X4_readEither : rhG → rhM → Nat → Int32 → Option (rhM)} {g_X4_readNot : rhG → rhM → Nat → Int32 → Option (rhM)} {g_X4_readOne : rhG → rhM → Nat → Int32 → Option (rhM)} {g_X4_readSum : rhG → rhM → Nat → Int32 → Option (rhM)} {g_X4_readTerm : rhG → rhM → Nat → Int32 → Option (rhM)} {g_X4_readUnit : rhG → rhM → Nat → Int32 → Option (rhM)} {Γ : rhG} (hg_X4_readBoth : ∀ (Γ : rhG) (M : rhM) (v0 : Nat) (v1 : Int32) (a : rhM), g_X4_readBoth Γ M v0 v1 = some a → rhC E (8 + dp) yX4_readBoth cX4_readBoth 3 none [rhR v0, rhI v1] Γ M ((rhe1U Γ) a)) (hg_X4_readEither : ∀ (Γ : rhG) (M : rhM) (v0 : Nat) (v1 : Int32) (a : rhM), g_X4_readEither Γ M v0 v1 = some a → rhC E (8 + dp) yX4_readEither cX4_readEither 3 none [rhR v0, rhI v1] Γ M ((rhe1U Γ) a)) (hg_X4_readNot : ∀ (Γ : rhG) (M : rhM) (v0 : Nat) (v1 : Int32) (a : rhM), g_X4_readNot Γ M v0 v1 = some a → rhC E (8 + dp) yX4_readNot cX4_readNot 2 none [rhR v0, rhI v1] Γ M ((rhe1U Γ) a)) (hg_X4_readOne : ∀ (Γ : rhG) (M : rhM) (v0 : Nat) (v1 : Int32) (a : rhM), g_X4_readOne Γ M v0 v1 = some a → rhC E (8 + dp) yX4_readOne cX4_readOne 3 none [rhR v0, rhI v1] Γ M ((rhe1U Γ) a)) (hg_X4_readSum : ∀ (Γ : rhG) (M : rhM) (v0 : Nat) (v1 : Int32) (a : rhM), g_X4_readSum Γ M v0 v1 = some a → rhC E (8 + dp) yX4_readSum cX4_readSum 4 none [rhR v0, rhI v1] Γ M ((rhe1U Γ) a)) (hg_X4_readTerm : ∀ (Γ : rhG) (M : rhM) (v0 : Nat) (v1 : Int32) (a : rhM), g_X4_readTerm Γ M v0 v1 = some a → rhC E (8 + dp) yX4_readTerm cX4_readTerm 4 none [rhR v0, rhI v1] Γ M ((rhe1U Γ) a)) (hg_X4_readUnit : ∀ (Γ : rhG) (M : rhM) (v0 : Nat) (v1 : Int32) (a : rhM), g_X4_readUnit Γ M v0 v1 = some a → rhC E (8 + dp) yX4_readUnit cX4_readUnit 2 none [rhR v0, rhI v1] Γ M ((rhe1U Γ) a)) : ∀ (M : rhM) (v0 : Nat) (v1 : Int32), rhF E (8 + (dp + 1)) 3 yX4_readBoth cX4_readBoth none Γ (rhe1U Γ) (f_X4_readBoth g_X4_readBoth g_X4_readEither g_X4_readNot g_X4_readOne g_X4_readSum g_X4_readTerm g_X4_readUnit Γ M v0 v1) 0 [(0, rhR v0), (1, rhI v1)] [] Γ M := by
  intro M v0 v1
  rw [f_X4_readBoth]
  refine rhF.aload_n (pc := 0) dX4_readBoth_0 0 rfl ?_
  refine rhF.iload_n (pc := 1) dX4_readBoth_1 1 rfl ?_
  refine rhF.ck (fun h1 => ?_)
  refine rhF.callV (pc := 2) (ci := 4) (embc := rhe1U _) [rhI _] dX4_readBoth_2 ml_X4_207 mv_X4_readOne ⟨_, rfl, rfl⟩ h1 (hg_X4_readOne _ _ _ _) (by omega) (by decide) rfl (Nat.le_of_ble_eq_true rfl) (fun r2 _ => ?_)
  refine rhF.iconst (pc := 5) (v := 0) dX4_readBoth_5 (by decide) ?_
  refine rhF.istore_n (pc := 6) (L' := [(2, rhI _), (0, rhR _), (1, rhI _)]) dX4_readBoth_6 (by decide) rfl ?_
  refine rhF.sub [1, 2, 0] rfl ?_
  exact (b_X4_readBoth_7 hg_X4_readBoth hg_X4_readEither hg_X4_readNot hg_X4_readOne hg_X4_readSum hg_X4_readTerm hg_X4_readUnit rhFU) _ _ _ _
set_option maxHeartbeats 4000000 in
set_option maxRecDepth 100000 in
theorem b_X4_readEither_7 {E : rhE} {dp : Nat} {g_X4_readBoth : rhG → rhM → Nat → Int32 → Option (rhM)} {g_X4_readEither : rhG → rhM → Nat → Int32 → Option (rhM)} {g_X4_readNot : rhG → rhM → Nat → Int32 → Option (rhM)} {g_X4_readOne : rhG → rhM → Nat → Int32 → Option (rhM)} {g_X4_readSum : rhG → rhM → Nat → Int32 → Option (rhM)} {g_X4_readTerm : rhG → rhM → Nat → Int32 → Option (rhM)} {g_X4_readUnit : rhG → rhM → Nat → Int32 → Option (rhM)} {Γ : rhG} (hg_X4_readBoth : ∀ (Γ : rhG) (M : rhM) (v0 : Nat) (v1 : Int32) (a : rhM), g_X4_readBoth Γ M v0 v1 = some a → rhC E (8 + dp) yX4_readBoth cX4_readBoth 3 none [rhR v0, rhI v1] Γ M ((rhe1U Γ) a)) (hg_X4_readEither : ∀ (Γ : rhG) (M : rhM) (v0 : Nat) (v1 : Int32) (a : rhM), g_X4_readEither Γ M v0 v1 = some a → rhC E (8 + dp) yX4_readEither cX4_readEither 3 none [rhR v0, rhI v1] Γ M ((rhe1U Γ) a)) (hg_X4_readNot : ∀ (Γ : rhG) (M : rhM) (v0 : Nat) (v1 : Int32) (a : rhM), g_X4_readNot Γ M v0 v1 = some a → rhC E (8 + dp) yX4_readNot cX4_readNot 2 none [rhR v0, rhI v1] Γ M ((rhe1U Γ) a)) (hg_X4_readOne : ∀ (Γ : rhG) (M : rhM) (v0 : Nat) (v1 : Int32) (a : rhM), g_X4_readOne Γ M v0 v1 = some a → rhC E (8 + dp) yX4_readOne cX4_readOne 3 none [rhR v0, rhI v1] Γ M ((rhe1U Γ) a)) (hg_X4_readSum : ∀ (Γ : rhG) (M : rhM) (v0 : Nat) (v1 : Int32) (a : rhM), g_X4_readSum Γ M v0 v1 = some a → rhC E (8 + dp) yX4_readSum cX4_readSum 4 none [rhR v0, rhI v1] Γ M ((rhe1U Γ) a)) (hg_X4_readTerm : ∀ (Γ : rhG) (M : rhM) (v0 : Nat) (v1 : Int32) (a : rhM), g_X4_readTerm Γ M v0 v1 = some a → rhC E (8 + dp) yX4_readTerm cX4_readTerm 4 none [rhR v0, rhI v1] Γ M ((rhe1U Γ) a)) (hg_X4_readUnit : ∀ (Γ : rhG) (M : rhM) (v0 : Nat) (v1 : Int32) (a : rhM), g_X4_readUnit Γ M v0 v1 = some a → rhC E (8 + dp) yX4_readUnit cX4_readUnit 2 none [rhR v0, rhI v1] Γ M ((rhe1U Γ) a)) : ∀ (n : Nat) (M : rhM) (v0 : Nat) (v1 : Int32) (v2 : Int32), rhF E (8 + (dp + 1)) 3 yX4_readEither cX4_readEither none Γ (rhe1U Γ) (f_X4_readEither_7 g_X4_readBoth g_X4_readEither g_X4_readNot g_X4_readOne g_X4_readSum g_X4_readTerm g_X4_readUnit Γ n M v0 v1 v2) 7 [(0, rhR v0), (1, rhI v1), (2, rhI v2)] [] Γ M := by
  intro n
  induction n with
  | zero => intro M v0 v1 v2; rw [f_X4_readEither_7]; exact rhF.nope
  | succ n ih =>
    intro M v0 v1 v2
    rw [f_X4_readEither_7]
    refine rhF.iload_n (pc := 7) dX4_readEither_7 2 rfl ?_
    refine rhF.bipush (pc := 8) (v := 40) dX4_readEither_8 (by decide) ?_
    refine rhF.icmp_ge (pc := 10) 60 dX4_readEither_10 (by decide) (fun h3 => ?_) (fun h3 => ?_)
    · refine rhF.aload_n (pc := 13) dX4_readEither_13 0 rfl ?_
      refine rhF.ck (fun h4 => ?_)
      refine rhF.get (pc := 14) (rhI _) dX4_readEither_14 fl_X4_43 h4 rfl ?_
      refine rhF.if_ne (pc := 17) 60 dX4_readEither_17 (by decide) (fun h5 => ?_) (fun h5 => ?_)
      · refine rhF.aload_n (pc := 20) dX4_readEither_20 0 rfl ?_
        refine rhF.get (pc := 21) (rhR _) dX4_readEither_21 fl_X4_18 h4 rfl ?_
        refine rhF.ck (fun h6 => ?_)
        refine rhF.get (pc := 24) (rhI _) dX4_readEither_24 fl_X4_49 h6 rfl ?_
        refine rhF.bipush (pc := 27) (v := 10) dX4_readEither_27 (by decide) ?_
        refine rhF.icmp_ne (pc := 29) 60 dX4_readEither_29 (by decide) (fun h7 => ?_) (fun h7 => ?_)
        · refine rhF.aload_n (pc := 32) dX4_readEither_32 0 rfl ?_
          refine rhF.get (pc := 33) (rhR _) dX4_readEither_33 fl_X4_18 h4 rfl ?_
          refine rhF.callV (pc := 36) (ci := 8) (embc := rhe1U _) [] dX4_readEither_36 ml_X4_126 mv_X8_advance ⟨_, rfl, rfl⟩ h6 (c_X8_advance _ _ _ _) (by omega) (by decide) rfl (Nat.le_of_ble_eq_true rfl) (fun r8 _ => ?_)
          refine rhF.aload_n (pc := 39) dX4_readEither_39 0 rfl ?_
          refine rhF.iload_n (pc := 40) dX4_readEither_40 1 rfl ?_
          refine rhF.callV (pc := 41) (ci := 4) (embc := rhe1U _) [rhI _] dX4_readEither_41 ml_X4_199 mv_X4_readBoth ⟨_, rfl, rfl⟩ h4 (hg_X4_readBoth _ _ _ _) (by omega) (by decide) rfl (Nat.le_of_ble_eq_true rfl) (fun r9 _ => ?_)
          refine rhF.aload_n (pc := 44) dX4_readEither_44 0 rfl ?_
          refine rhF.get (pc := 45) (rhR _) dX4_readEither_45 fl_X4_91 h4 rfl ?_
          refine rhF.bipush (pc := 48) (v := 10) dX4_readEither_48 (by decide) ?_
          refine rhF.iconst (pc := 50) (v := 0) dX4_readEither_50 (by decide) ?_
          refine rhF.ck (fun h10 => ?_)
          refine rhF.callV (pc := 51) (ci := 1) (embc := rhe1U _) [rhI _, rhI _] dX4_readEither_51 ml_X4_202 mv_X1_addStep ⟨_, rfl, rfl⟩ h10 (c_X1_addStep _ _ _ _ _ _) (by omega) (by decide) rfl (Nat.le_of_ble_eq_true rfl) (fun r11 _ => ?_)
          refine rhF.iinc (pc := 54) (L' := [(2, rhI _), (0, rhR _), (1, rhI _)]) dX4_readEither_54 2 rfl rfl (by decide) rfl ?_
          refine rhF.goto (pc := 57) 7 dX4_readEither_57 (by decide) ?_
          refine rhF.sub [1, 2, 0] rfl ?_
          exact ih _ _ _ _
        · exact rhF.vret (pc := 60) dX4_readEither_60 rfl rfl
      · exact rhF.vret (pc := 60) dX4_readEither_60 rfl rfl
    · exact rhF.vret (pc := 60) dX4_readEither_60 rfl rfl
set_option maxHeartbeats 4000000 in
set_option maxRecDepth 100000 in
theorem b_X4_readEither {E : rhE} {dp : Nat} {g_X4_readBoth : rhG → rhM → Nat → Int32 → Option (rhM)} {g_X4_readEither : rhG → rhM → Nat → Int32 → Option (rhM)} {g_X4_readNot : rhG → rhM → Nat → Int32 → Option (rhM)} {g_X4_readOne : rhG → rhM → Nat → Int32 → Option (rhM)} {g_X4_readSum : rhG → rhM → Nat → Int32 → Option (rhM)} {g_X4_readTerm : rhG → rhM → Nat → Int32 → Option (rhM)} {g_X4_readUnit : rhG → rhM → Nat → Int32 → Option (rhM)} {Γ : rhG} (hg_X4_readBoth : ∀ (Γ : rhG) (M : rhM) (v0 : Nat) (v1 : Int32) (a : rhM), g_X4_readBoth Γ M v0 v1 = some a → rhC E (8 + dp) yX4_readBoth cX4_readBoth 3 none [rhR v0, rhI v1] Γ M ((rhe1U Γ) a)) (hg_X4_readEither : ∀ (Γ : rhG) (M : rhM) (v0 : Nat) (v1 : Int32) (a : rhM), g_X4_readEither Γ M v0 v1 = some a → rhC E (8 + dp) yX4_readEither cX4_readEither 3 none [rhR v0, rhI v1] Γ M ((rhe1U Γ) a)) (hg_X4_readNot : ∀ (Γ : rhG) (M : rhM) (v0 : Nat) (v1 : Int32) (a : rhM), g_X4_readNot Γ M v0 v1 = some a → rhC E (8 + dp) yX4_readNot cX4_readNot 2 none [rhR v0, rhI v1] Γ M ((rhe1U Γ) a)) (hg_X4_readOne : ∀ (Γ : rhG) (M : rhM) (v0 : Nat) (v1 : Int32) (a : rhM), g_X4_readOne Γ M v0 v1 = some a → rhC E (8 + dp) yX4_readOne cX4_readOne 3 none [rhR v0, rhI v1] Γ M ((rhe1U Γ) a)) (hg_X4_readSum : ∀ (Γ : rhG) (M : rhM) (v0 : Nat) (v1 : Int32) (a : rhM), g_X4_readSum Γ M v0 v1 = some a → rhC E (8 + dp) yX4_readSum cX4_readSum 4 none [rhR v0, rhI v1] Γ M ((rhe1U Γ) a)) (hg_X4_readTerm : ∀ (Γ : rhG) (M : rhM) (v0 : Nat) (v1 : Int32) (a : rhM), g_X4_readTerm Γ M v0 v1 = some a → rhC E (8 + dp) yX4_readTerm cX4_readTerm 4 none [rhR v0, rhI v1] Γ M ((rhe1U Γ) a)) (hg_X4_readUnit : ∀ (Γ : rhG) (M : rhM) (v0 : Nat) (v1 : Int32) (a : rhM), g_X4_readUnit Γ M v0 v1 = some a → rhC E (8 + dp) yX4_readUnit cX4_readUnit 2 none [rhR v0, rhI v1] Γ M ((rhe1U Γ) a)) : ∀ (M : rhM) (v0 : Nat) (v1 : Int32), rhF E (8 + (dp + 1)) 3 yX4_readEither cX4_readEither none Γ (rhe1U Γ) (f_X4_readEither g_X4_readBoth g_X4_readEither g_X4_readNot g_X4_readOne g_X4_readSum g_X4_readTerm g_X4_readUnit Γ M v0 v1) 0 [(0, rhR v0), (1, rhI v1)] [] Γ M := by
  intro M v0 v1
  rw [f_X4_readEither]
  refine rhF.aload_n (pc := 0) dX4_readEither_0 0 rfl ?_
  refine rhF.iload_n (pc := 1) dX4_readEither_1 1 rfl ?_
  refine rhF.ck (fun h1 => ?_)
  refine rhF.callV (pc := 2) (ci := 4) (embc := rhe1U _) [rhI _] dX4_readEither_2 ml_X4_199 mv_X4_readBoth ⟨_, rfl, rfl⟩ h1 (hg_X4_readBoth _ _ _ _) (by omega) (by decide) rfl (Nat.le_of_ble_eq_true rfl) (fun r2 _ => ?_)
  refine rhF.iconst (pc := 5) (v := 0) dX4_readEither_5 (by decide) ?_
  refine rhF.istore_n (pc := 6) (L' := [(2, rhI _), (0, rhR _), (1, rhI _)]) dX4_readEither_6 (by decide) rfl ?_
  refine rhF.sub [1, 2, 0] rfl ?_
  exact (b_X4_readEither_7 hg_X4_readBoth hg_X4_readEither hg_X4_readNot hg_X4_readOne hg_X4_readSum hg_X4_readTerm hg_X4_readUnit rhFU) _ _ _ _
set_option maxHeartbeats 4000000 in
set_option maxRecDepth 100000 in
theorem b_X4_readNot_12 {E : rhE} {dp : Nat} {g_X4_readBoth : rhG → rhM → Nat → Int32 → Option (rhM)} {g_X4_readEither : rhG → rhM → Nat → Int32 → Option (rhM)} {g_X4_readNot : rhG → rhM → Nat → Int32 → Option (rhM)} {g_X4_readOne : rhG → rhM → Nat → Int32 → Option (rhM)} {g_X4_readSum : rhG → rhM → Nat → Int32 → Option (rhM)} {g_X4_readTerm : rhG → rhM → Nat → Int32 → Option (rhM)} {g_X4_readUnit : rhG → rhM → Nat → Int32 → Option (rhM)} {Γ : rhG} (hg_X4_readBoth : ∀ (Γ : rhG) (M : rhM) (v0 : Nat) (v1 : Int32) (a : rhM), g_X4_readBoth Γ M v0 v1 = some a → rhC E (8 + dp) yX4_readBoth cX4_readBoth 3 none [rhR v0, rhI v1] Γ M ((rhe1U Γ) a)) (hg_X4_readEither : ∀ (Γ : rhG) (M : rhM) (v0 : Nat) (v1 : Int32) (a : rhM), g_X4_readEither Γ M v0 v1 = some a → rhC E (8 + dp) yX4_readEither cX4_readEither 3 none [rhR v0, rhI v1] Γ M ((rhe1U Γ) a)) (hg_X4_readNot : ∀ (Γ : rhG) (M : rhM) (v0 : Nat) (v1 : Int32) (a : rhM), g_X4_readNot Γ M v0 v1 = some a → rhC E (8 + dp) yX4_readNot cX4_readNot 2 none [rhR v0, rhI v1] Γ M ((rhe1U Γ) a)) (hg_X4_readOne : ∀ (Γ : rhG) (M : rhM) (v0 : Nat) (v1 : Int32) (a : rhM), g_X4_readOne Γ M v0 v1 = some a → rhC E (8 + dp) yX4_readOne cX4_readOne 3 none [rhR v0, rhI v1] Γ M ((rhe1U Γ) a)) (hg_X4_readSum : ∀ (Γ : rhG) (M : rhM) (v0 : Nat) (v1 : Int32) (a : rhM), g_X4_readSum Γ M v0 v1 = some a → rhC E (8 + dp) yX4_readSum cX4_readSum 4 none [rhR v0, rhI v1] Γ M ((rhe1U Γ) a)) (hg_X4_readTerm : ∀ (Γ : rhG) (M : rhM) (v0 : Nat) (v1 : Int32) (a : rhM), g_X4_readTerm Γ M v0 v1 = some a → rhC E (8 + dp) yX4_readTerm cX4_readTerm 4 none [rhR v0, rhI v1] Γ M ((rhe1U Γ) a)) (hg_X4_readUnit : ∀ (Γ : rhG) (M : rhM) (v0 : Nat) (v1 : Int32) (a : rhM), g_X4_readUnit Γ M v0 v1 = some a → rhC E (8 + dp) yX4_readUnit cX4_readUnit 2 none [rhR v0, rhI v1] Γ M ((rhe1U Γ) a)) : ∀ (M : rhM) (v0 : Nat) (v1 : Int32) (s0 : Nat) (s1 : Int32), rhF E (8 + (dp + 1)) 2 yX4_readNot cX4_readNot none Γ (rhe1U Γ) (f_X4_readNot_12 g_X4_readBoth g_X4_readEither g_X4_readNot g_X4_readOne g_X4_readSum g_X4_readTerm g_X4_readUnit Γ M v0 v1 s0 s1) 12 [(0, rhR v0), (1, rhI v1)] [rhI s1, rhR s0] Γ M := by
  intro M v0 v1 s0 s1
  rw [f_X4_readNot_12]
  refine rhF.ck (fun h2 => ?_)
  refine rhF.callV (pc := 12) (ci := 4) (embc := rhe1U _) [rhI _] dX4_readNot_12 ml_X4_146 mv_X4_advanceUnless ⟨_, rfl, rfl⟩ h2 (c_X4_advanceUnless _ _ _ _ _) (by omega) (by decide) rfl (Nat.le_of_ble_eq_true rfl) (fun r3 _ => ?_)
  refine rhF.aload_n (pc := 15) dX4_readNot_15 0 rfl ?_
  refine rhF.ck (fun h4 => ?_)
  refine rhF.get (pc := 16) (rhI _) dX4_readNot_16 fl_X4_43 h4 rfl ?_
  refine rhF.if_ne (pc := 19) 39 dX4_readNot_19 (by decide) (fun h5 => ?_) (fun h5 => ?_)
  · refine rhF.aload_n (pc := 22) dX4_readNot_22 0 rfl ?_
    refine rhF.iload_n (pc := 23) dX4_readNot_23 1 rfl ?_
    refine rhF.iconst (pc := 24) (v := 1) dX4_readNot_24 (by decide) ?_
    refine rhF.iadd (pc := 25) dX4_readNot_25 ?_
    refine rhF.callV (pc := 26) (ci := 4) (embc := rhe1U _) [rhI _] dX4_readNot_26 ml_X4_207 mv_X4_readOne ⟨_, rfl, rfl⟩ h4 (hg_X4_readOne _ _ _ _) (by omega) (by decide) rfl (Nat.le_of_ble_eq_true rfl) (fun r6 _ => ?_)
    refine rhF.aload_n (pc := 29) dX4_readNot_29 0 rfl ?_
    refine rhF.get (pc := 30) (rhR _) dX4_readNot_30 fl_X4_91 h4 rfl ?_
    refine rhF.bipush (pc := 33) (v := 12) dX4_readNot_33 (by decide) ?_
    refine rhF.iconst (pc := 35) (v := 0) dX4_readNot_35 (by decide) ?_
    refine rhF.ck (fun h7 => ?_)
    refine rhF.callV (pc := 36) (ci := 1) (embc := rhe1U _) [rhI _, rhI _] dX4_readNot_36 ml_X4_202 mv_X1_addStep ⟨_, rfl, rfl⟩ h7 (c_X1_addStep _ _ _ _ _ _) (by omega) (by decide) rfl (Nat.le_of_ble_eq_true rfl) (fun r8 _ => ?_)
    exact rhF.vret (pc := 39) dX4_readNot_39 rfl rfl
  · exact rhF.vret (pc := 39) dX4_readNot_39 rfl rfl
set_option maxHeartbeats 4000000 in
set_option maxRecDepth 100000 in
theorem b_X4_readNot {E : rhE} {dp : Nat} {g_X4_readBoth : rhG → rhM → Nat → Int32 → Option (rhM)} {g_X4_readEither : rhG → rhM → Nat → Int32 → Option (rhM)} {g_X4_readNot : rhG → rhM → Nat → Int32 → Option (rhM)} {g_X4_readOne : rhG → rhM → Nat → Int32 → Option (rhM)} {g_X4_readSum : rhG → rhM → Nat → Int32 → Option (rhM)} {g_X4_readTerm : rhG → rhM → Nat → Int32 → Option (rhM)} {g_X4_readUnit : rhG → rhM → Nat → Int32 → Option (rhM)} {Γ : rhG} (hg_X4_readBoth : ∀ (Γ : rhG) (M : rhM) (v0 : Nat) (v1 : Int32) (a : rhM), g_X4_readBoth Γ M v0 v1 = some a → rhC E (8 + dp) yX4_readBoth cX4_readBoth 3 none [rhR v0, rhI v1] Γ M ((rhe1U Γ) a)) (hg_X4_readEither : ∀ (Γ : rhG) (M : rhM) (v0 : Nat) (v1 : Int32) (a : rhM), g_X4_readEither Γ M v0 v1 = some a → rhC E (8 + dp) yX4_readEither cX4_readEither 3 none [rhR v0, rhI v1] Γ M ((rhe1U Γ) a)) (hg_X4_readNot : ∀ (Γ : rhG) (M : rhM) (v0 : Nat) (v1 : Int32) (a : rhM), g_X4_readNot Γ M v0 v1 = some a → rhC E (8 + dp) yX4_readNot cX4_readNot 2 none [rhR v0, rhI v1] Γ M ((rhe1U Γ) a)) (hg_X4_readOne : ∀ (Γ : rhG) (M : rhM) (v0 : Nat) (v1 : Int32) (a : rhM), g_X4_readOne Γ M v0 v1 = some a → rhC E (8 + dp) yX4_readOne cX4_readOne 3 none [rhR v0, rhI v1] Γ M ((rhe1U Γ) a)) (hg_X4_readSum : ∀ (Γ : rhG) (M : rhM) (v0 : Nat) (v1 : Int32) (a : rhM), g_X4_readSum Γ M v0 v1 = some a → rhC E (8 + dp) yX4_readSum cX4_readSum 4 none [rhR v0, rhI v1] Γ M ((rhe1U Γ) a)) (hg_X4_readTerm : ∀ (Γ : rhG) (M : rhM) (v0 : Nat) (v1 : Int32) (a : rhM), g_X4_readTerm Γ M v0 v1 = some a → rhC E (8 + dp) yX4_readTerm cX4_readTerm 4 none [rhR v0, rhI v1] Γ M ((rhe1U Γ) a)) (hg_X4_readUnit : ∀ (Γ : rhG) (M : rhM) (v0 : Nat) (v1 : Int32) (a : rhM), g_X4_readUnit Γ M v0 v1 = some a → rhC E (8 + dp) yX4_readUnit cX4_readUnit 2 none [rhR v0, rhI v1] Γ M ((rhe1U Γ) a)) : ∀ (M : rhM) (v0 : Nat) (v1 : Int32), rhF E (8 + (dp + 1)) 2 yX4_readNot cX4_readNot none Γ (rhe1U Γ) (f_X4_readNot g_X4_readBoth g_X4_readEither g_X4_readNot g_X4_readOne g_X4_readSum g_X4_readTerm g_X4_readUnit Γ M v0 v1) 0 [(0, rhR v0), (1, rhI v1)] [] Γ M := by
  intro M v0 v1
  rw [f_X4_readNot]
  refine rhF.aload_n (pc := 0) dX4_readNot_0 0 rfl ?_
  refine rhF.iload_n (pc := 1) dX4_readNot_1 1 rfl ?_
  refine rhF.bipush (pc := 2) (v := 7) dX4_readNot_2 (by decide) ?_
  refine rhF.icmp_lt (pc := 4) 11 dX4_readNot_4 (by decide) (fun h1 => ?_) (fun h1 => ?_)
  · refine rhF.iconst (pc := 11) (v := 0) dX4_readNot_11 (by decide) ?_
    exact (b_X4_readNot_12 hg_X4_readBoth hg_X4_readEither hg_X4_readNot hg_X4_readOne hg_X4_readSum hg_X4_readTerm hg_X4_readUnit) _ _ _ _ _
  · refine rhF.iconst (pc := 7) (v := 1) dX4_readNot_7 (by decide) ?_
    refine rhF.goto (pc := 8) 12 dX4_readNot_8 (by decide) ?_
    exact (b_X4_readNot_12 hg_X4_readBoth hg_X4_readEither hg_X4_readNot hg_X4_readOne hg_X4_readSum hg_X4_readTerm hg_X4_readUnit) _ _ _ _ _
set_option maxHeartbeats 4000000 in
set_option maxRecDepth 100000 in
theorem b_X4_readOne_56 {E : rhE} {dp : Nat} {g_X4_readBoth : rhG → rhM → Nat → Int32 → Option (rhM)} {g_X4_readEither : rhG → rhM → Nat → Int32 → Option (rhM)} {g_X4_readNot : rhG → rhM → Nat → Int32 → Option (rhM)} {g_X4_readOne : rhG → rhM → Nat → Int32 → Option (rhM)} {g_X4_readSum : rhG → rhM → Nat → Int32 → Option (rhM)} {g_X4_readTerm : rhG → rhM → Nat → Int32 → Option (rhM)} {g_X4_readUnit : rhG → rhM → Nat → Int32 → Option (rhM)} {Γ : rhG} (hg_X4_readBoth : ∀ (Γ : rhG) (M : rhM) (v0 : Nat) (v1 : Int32) (a : rhM), g_X4_readBoth Γ M v0 v1 = some a → rhC E (8 + dp) yX4_readBoth cX4_readBoth 3 none [rhR v0, rhI v1] Γ M ((rhe1U Γ) a)) (hg_X4_readEither : ∀ (Γ : rhG) (M : rhM) (v0 : Nat) (v1 : Int32) (a : rhM), g_X4_readEither Γ M v0 v1 = some a → rhC E (8 + dp) yX4_readEither cX4_readEither 3 none [rhR v0, rhI v1] Γ M ((rhe1U Γ) a)) (hg_X4_readNot : ∀ (Γ : rhG) (M : rhM) (v0 : Nat) (v1 : Int32) (a : rhM), g_X4_readNot Γ M v0 v1 = some a → rhC E (8 + dp) yX4_readNot cX4_readNot 2 none [rhR v0, rhI v1] Γ M ((rhe1U Γ) a)) (hg_X4_readOne : ∀ (Γ : rhG) (M : rhM) (v0 : Nat) (v1 : Int32) (a : rhM), g_X4_readOne Γ M v0 v1 = some a → rhC E (8 + dp) yX4_readOne cX4_readOne 3 none [rhR v0, rhI v1] Γ M ((rhe1U Γ) a)) (hg_X4_readSum : ∀ (Γ : rhG) (M : rhM) (v0 : Nat) (v1 : Int32) (a : rhM), g_X4_readSum Γ M v0 v1 = some a → rhC E (8 + dp) yX4_readSum cX4_readSum 4 none [rhR v0, rhI v1] Γ M ((rhe1U Γ) a)) (hg_X4_readTerm : ∀ (Γ : rhG) (M : rhM) (v0 : Nat) (v1 : Int32) (a : rhM), g_X4_readTerm Γ M v0 v1 = some a → rhC E (8 + dp) yX4_readTerm cX4_readTerm 4 none [rhR v0, rhI v1] Γ M ((rhe1U Γ) a)) (hg_X4_readUnit : ∀ (Γ : rhG) (M : rhM) (v0 : Nat) (v1 : Int32) (a : rhM), g_X4_readUnit Γ M v0 v1 = some a → rhC E (8 + dp) yX4_readUnit cX4_readUnit 2 none [rhR v0, rhI v1] Γ M ((rhe1U Γ) a)) : ∀ (M : rhM) (v0 : Nat) (v1 : Int32) (v2 : Int32), rhF E (8 + (dp + 1)) 3 yX4_readOne cX4_readOne none Γ (rhe1U Γ) (f_X4_readOne_56 g_X4_readBoth g_X4_readEither g_X4_readNot g_X4_readOne g_X4_readSum g_X4_readTerm g_X4_readUnit Γ M v0 v1 v2) 56 [(0, rhR v0), (1, rhI v1), (2, rhI v2)] [] Γ M := by
  intro M v0 v1 v2
  rw [f_X4_readOne_56]
  refine rhF.aload_n (pc := 56) dX4_readOne_56 0 rfl ?_
  refine rhF.ck (fun h10 => ?_)
  refine rhF.get (pc := 57) (rhR _) dX4_readOne_57 fl_X4_18 h10 rfl ?_
  refine rhF.ck (fun h11 => ?_)
  refine rhF.callV (pc := 60) (ci := 8) (embc := rhe1U _) [] dX4_readOne_60 ml_X4_126 mv_X8_advance ⟨_, rfl, rfl⟩ h11 (c_X8_advance _ _ _ _) (by omega) (by decide) rfl (Nat.le_of_ble_eq_true rfl) (fun r12 _ => ?_)
  refine rhF.aload_n (pc := 63) dX4_readOne_63 0 rfl ?_
  refine rhF.iload_n (pc := 64) dX4_readOne_64 1 rfl ?_
  refine rhF.callV (pc := 65) (ci := 4) (embc := rhe1U _) [rhI _] dX4_readOne_65 ml_X4_213 mv_X4_readSum ⟨_, rfl, rfl⟩ h10 (hg_X4_readSum _ _ _ _) (by omega) (by decide) rfl (Nat.le_of_ble_eq_true rfl) (fun r13 _ => ?_)
  refine rhF.aload_n (pc := 68) dX4_readOne_68 0 rfl ?_
  refine rhF.get (pc := 69) (rhR _) dX4_readOne_69 fl_X4_91 h10 rfl ?_
  refine rhF.iload_n (pc := 72) dX4_readOne_72 2 rfl ?_
  refine rhF.iconst (pc := 73) (v := 0) dX4_readOne_73 (by decide) ?_
  refine rhF.ck (fun h14 => ?_)
  refine rhF.callV (pc := 74) (ci := 1) (embc := rhe1U _) [rhI _, rhI _] dX4_readOne_74 ml_X4_202 mv_X1_addStep ⟨_, rfl, rfl⟩ h14 (c_X1_addStep _ _ _ _ _ _) (by omega) (by decide) rfl (Nat.le_of_ble_eq_true rfl) (fun r15 _ => ?_)
  exact rhF.vret (pc := 77) dX4_readOne_77 rfl rfl
set_option maxHeartbeats 4000000 in
set_option maxRecDepth 100000 in
theorem b_X4_readOne {E : rhE} {dp : Nat} {g_X4_readBoth : rhG → rhM → Nat → Int32 → Option (rhM)} {g_X4_readEither : rhG → rhM → Nat → Int32 → Option (rhM)} {g_X4_readNot : rhG → rhM → Nat → Int32 → Option (rhM)} {g_X4_readOne : rhG → rhM → Nat → Int32 → Option (rhM)} {g_X4_readSum : rhG → rhM → Nat → Int32 → Option (rhM)} {g_X4_readTerm : rhG → rhM → Nat → Int32 → Option (rhM)} {g_X4_readUnit : rhG → rhM → Nat → Int32 → Option (rhM)} {Γ : rhG} (hg_X4_readBoth : ∀ (Γ : rhG) (M : rhM) (v0 : Nat) (v1 : Int32) (a : rhM), g_X4_readBoth Γ M v0 v1 = some a → rhC E (8 + dp) yX4_readBoth cX4_readBoth 3 none [rhR v0, rhI v1] Γ M ((rhe1U Γ) a)) (hg_X4_readEither : ∀ (Γ : rhG) (M : rhM) (v0 : Nat) (v1 : Int32) (a : rhM), g_X4_readEither Γ M v0 v1 = some a → rhC E (8 + dp) yX4_readEither cX4_readEither 3 none [rhR v0, rhI v1] Γ M ((rhe1U Γ) a)) (hg_X4_readNot : ∀ (Γ : rhG) (M : rhM) (v0 : Nat) (v1 : Int32) (a : rhM), g_X4_readNot Γ M v0 v1 = some a → rhC E (8 + dp) yX4_readNot cX4_readNot 2 none [rhR v0, rhI v1] Γ M ((rhe1U Γ) a)) (hg_X4_readOne : ∀ (Γ : rhG) (M : rhM) (v0 : Nat) (v1 : Int32) (a : rhM), g_X4_readOne Γ M v0 v1 = some a → rhC E (8 + dp) yX4_readOne cX4_readOne 3 none [rhR v0, rhI v1] Γ M ((rhe1U Γ) a)) (hg_X4_readSum : ∀ (Γ : rhG) (M : rhM) (v0 : Nat) (v1 : Int32) (a : rhM), g_X4_readSum Γ M v0 v1 = some a → rhC E (8 + dp) yX4_readSum cX4_readSum 4 none [rhR v0, rhI v1] Γ M ((rhe1U Γ) a)) (hg_X4_readTerm : ∀ (Γ : rhG) (M : rhM) (v0 : Nat) (v1 : Int32) (a : rhM), g_X4_readTerm Γ M v0 v1 = some a → rhC E (8 + dp) yX4_readTerm cX4_readTerm 4 none [rhR v0, rhI v1] Γ M ((rhe1U Γ) a)) (hg_X4_readUnit : ∀ (Γ : rhG) (M : rhM) (v0 : Nat) (v1 : Int32) (a : rhM), g_X4_readUnit Γ M v0 v1 = some a → rhC E (8 + dp) yX4_readUnit cX4_readUnit 2 none [rhR v0, rhI v1] Γ M ((rhe1U Γ) a)) : ∀ (M : rhM) (v0 : Nat) (v1 : Int32), rhF E (8 + (dp + 1)) 3 yX4_readOne cX4_readOne none Γ (rhe1U Γ) (f_X4_readOne g_X4_readBoth g_X4_readEither g_X4_readNot g_X4_readOne g_X4_readSum g_X4_readTerm g_X4_readUnit Γ M v0 v1) 0 [(0, rhR v0), (1, rhI v1)] [] Γ M := by
  intro M v0 v1
  rw [f_X4_readOne]
  refine rhF.aload_n (pc := 0) dX4_readOne_0 0 rfl ?_
  refine rhF.ck (fun h1 => ?_)
  refine rhF.get (pc := 1) (rhR _) dX4_readOne_1 fl_X4_18 h1 rfl ?_
  refine rhF.ck (fun h2 => ?_)
  refine rhF.get (pc := 4) (rhI _) dX4_readOne_4 fl_X4_49 h2 rfl ?_
  refine rhF.bipush (pc := 7) (v := 12) dX4_readOne_7 (by decide) ?_
  refine rhF.icmp_ne (pc := 9) 18 dX4_readOne_9 (by decide) (fun h3 => ?_) (fun h3 => ?_)
  · refine rhF.aload_n (pc := 12) dX4_readOne_12 0 rfl ?_
    refine rhF.iload_n (pc := 13) dX4_readOne_13 1 rfl ?_
    refine rhF.callV (pc := 14) (ci := 4) (embc := rhe1U _) [rhI _] dX4_readOne_14 ml_X4_210 mv_X4_readNot ⟨_, rfl, rfl⟩ h1 (hg_X4_readNot _ _ _ _) (by omega) (by decide) rfl (Nat.le_of_ble_eq_true rfl) (fun r4 _ => ?_)
    exact rhF.vret (pc := 17) dX4_readOne_17 rfl rfl
  · refine rhF.aload_n (pc := 18) dX4_readOne_18 0 rfl ?_
    refine rhF.iload_n (pc := 19) dX4_readOne_19 1 rfl ?_
    refine rhF.callV (pc := 20) (ci := 4) (embc := rhe1U _) [rhI _] dX4_readOne_20 ml_X4_213 mv_X4_readSum ⟨_, rfl, rfl⟩ h1 (hg_X4_readSum _ _ _ _) (by omega) (by decide) rfl (Nat.le_of_ble_eq_true rfl) (fun r5 _ => ?_)
    refine rhF.aload_n (pc := 23) dX4_readOne_23 0 rfl ?_
    refine rhF.get (pc := 24) (rhR _) dX4_readOne_24 fl_X4_18 h1 rfl ?_
    refine rhF.ck (fun h6 => ?_)
    refine rhF.get (pc := 27) (rhI _) dX4_readOne_27 fl_X4_129 h6 rfl ?_
    refine rhF.istore_n (pc := 30) (L' := [(2, rhI _), (0, rhR _), (1, rhI _)]) dX4_readOne_30 (by decide) rfl ?_
    refine rhF.aload_n (pc := 31) dX4_readOne_31 1 rfl ?_
    refine rhF.get (pc := 32) (rhI _) dX4_readOne_32 fl_X4_43 h1 rfl ?_
    refine rhF.if_ne (pc := 35) 77 dX4_readOne_35 (by decide) (fun h8 => ?_) (fun h8 => ?_)
    · refine rhF.iload_n (pc := 38) dX4_readOne_38 0 rfl ?_
      refine rhF.bipush (pc := 39) (v := 60) dX4_readOne_39 (by decide) ?_
      refine rhF.icmp_eq (pc := 41) 56 dX4_readOne_41 (by decide) (fun h9 => ?_) (fun h9 => ?_)
      · refine rhF.sub [1, 2, 0] rfl ?_
        exact (b_X4_readOne_56 hg_X4_readBoth hg_X4_readEither hg_X4_readNot hg_X4_readOne hg_X4_readSum hg_X4_readTerm hg_X4_readUnit) _ _ _ _
      · refine rhF.iload_n (pc := 44) dX4_readOne_44 0 rfl ?_
        refine rhF.bipush (pc := 45) (v := 62) dX4_readOne_45 (by decide) ?_
        refine rhF.icmp_eq (pc := 47) 56 dX4_readOne_47 (by decide) (fun h16 => ?_) (fun h16 => ?_)
        · refine rhF.sub [1, 2, 0] rfl ?_
          exact (b_X4_readOne_56 hg_X4_readBoth hg_X4_readEither hg_X4_readNot hg_X4_readOne hg_X4_readSum hg_X4_readTerm hg_X4_readUnit) _ _ _ _
        · refine rhF.iload_n (pc := 50) dX4_readOne_50 0 rfl ?_
          refine rhF.bipush (pc := 51) (v := 61) dX4_readOne_51 (by decide) ?_
          refine rhF.icmp_ne (pc := 53) 77 dX4_readOne_53 (by decide) (fun h17 => ?_) (fun h17 => ?_)
          · refine rhF.sub [1, 2, 0] rfl ?_
            exact (b_X4_readOne_56 hg_X4_readBoth hg_X4_readEither hg_X4_readNot hg_X4_readOne hg_X4_readSum hg_X4_readTerm hg_X4_readUnit) _ _ _ _
          · exact rhF.vret (pc := 77) dX4_readOne_77 rfl rfl
    · exact rhF.vret (pc := 77) dX4_readOne_77 rfl rfl
set_option maxHeartbeats 4000000 in
set_option maxRecDepth 100000 in
theorem b_X4_readSum_40 {E : rhE} {dp : Nat} {g_X4_readBoth : rhG → rhM → Nat → Int32 → Option (rhM)} {g_X4_readEither : rhG → rhM → Nat → Int32 → Option (rhM)} {g_X4_readNot : rhG → rhM → Nat → Int32 → Option (rhM)} {g_X4_readOne : rhG → rhM → Nat → Int32 → Option (rhM)} {g_X4_readSum : rhG → rhM → Nat → Int32 → Option (rhM)} {g_X4_readTerm : rhG → rhM → Nat → Int32 → Option (rhM)} {g_X4_readUnit : rhG → rhM → Nat → Int32 → Option (rhM)} {Γ : rhG} {k15 : rhM → Nat → Int32 → Int32 → Int32 → Option (rhM)} (hg_X4_readBoth : ∀ (Γ : rhG) (M : rhM) (v0 : Nat) (v1 : Int32) (a : rhM), g_X4_readBoth Γ M v0 v1 = some a → rhC E (8 + dp) yX4_readBoth cX4_readBoth 3 none [rhR v0, rhI v1] Γ M ((rhe1U Γ) a)) (hg_X4_readEither : ∀ (Γ : rhG) (M : rhM) (v0 : Nat) (v1 : Int32) (a : rhM), g_X4_readEither Γ M v0 v1 = some a → rhC E (8 + dp) yX4_readEither cX4_readEither 3 none [rhR v0, rhI v1] Γ M ((rhe1U Γ) a)) (hg_X4_readNot : ∀ (Γ : rhG) (M : rhM) (v0 : Nat) (v1 : Int32) (a : rhM), g_X4_readNot Γ M v0 v1 = some a → rhC E (8 + dp) yX4_readNot cX4_readNot 2 none [rhR v0, rhI v1] Γ M ((rhe1U Γ) a)) (hg_X4_readOne : ∀ (Γ : rhG) (M : rhM) (v0 : Nat) (v1 : Int32) (a : rhM), g_X4_readOne Γ M v0 v1 = some a → rhC E (8 + dp) yX4_readOne cX4_readOne 3 none [rhR v0, rhI v1] Γ M ((rhe1U Γ) a)) (hg_X4_readSum : ∀ (Γ : rhG) (M : rhM) (v0 : Nat) (v1 : Int32) (a : rhM), g_X4_readSum Γ M v0 v1 = some a → rhC E (8 + dp) yX4_readSum cX4_readSum 4 none [rhR v0, rhI v1] Γ M ((rhe1U Γ) a)) (hg_X4_readTerm : ∀ (Γ : rhG) (M : rhM) (v0 : Nat) (v1 : Int32) (a : rhM), g_X4_readTerm Γ M v0 v1 = some a → rhC E (8 + dp) yX4_readTerm cX4_readTerm 4 none [rhR v0, rhI v1] Γ M ((rhe1U Γ) a)) (hg_X4_readUnit : ∀ (Γ : rhG) (M : rhM) (v0 : Nat) (v1 : Int32) (a : rhM), g_X4_readUnit Γ M v0 v1 = some a → rhC E (8 + dp) yX4_readUnit cX4_readUnit 2 none [rhR v0, rhI v1] Γ M ((rhe1U Γ) a)) (hk15 : ∀ (M : rhM) (v0 : Nat) (v1 : Int32) (v2 : Int32) (v3 : Int32), rhF E (8 + (dp + 1)) 4 yX4_readSum cX4_readSum none Γ (rhe1U Γ) (k15 M v0 v1 v2 v3) 15 [(0, rhR v0), (1, rhI v1), (2, rhI v2), (3, rhI v3)] [] Γ M) : ∀ (M : rhM) (v0 : Nat) (v1 : Int32) (v2 : Int32) (v3 : Int32), rhF E (8 + (dp + 1)) 4 yX4_readSum cX4_readSum none Γ (rhe1U Γ) (f_X4_readSum_40 g_X4_readBoth g_X4_readEither g_X4_readNot g_X4_readOne g_X4_readSum g_X4_readTerm g_X4_readUnit k15 Γ M v0 v1 v2 v3) 40 [(0, rhR v0), (1, rhI v1), (2, rhI v2), (3, rhI v3)] [] Γ M := by
  intro M v0 v1 v2 v3
  rw [f_X4_readSum_40]
  refine rhF.aload_n (pc := 40) dX4_readSum_40 0 rfl ?_
  refine rhF.ck (fun h9 => ?_)
  refine rhF.get (pc := 41) (rhR _) dX4_readSum_41 fl_X4_18 h9 rfl ?_
  refine rhF.ck (fun h10 => ?_)
  refine rhF.callV (pc := 44) (ci := 8) (embc := rhe1U _) [] dX4_readSum_44 ml_X4_126 mv_X8_advance ⟨_, rfl, rfl⟩ h10 (c_X8_advance _ _ _ _) (by omega) (by decide) rfl (Nat.le_of_ble_eq_true rfl) (fun r11 _ => ?_)
  refine rhF.aload_n (pc := 47) dX4_readSum_47 0 rfl ?_
  refine rhF.iload_n (pc := 48) dX4_readSum_48 1 rfl ?_
  refine rhF.callV (pc := 49) (ci := 4) (embc := rhe1U _) [rhI _] dX4_readSum_49 ml_X4_216 mv_X4_readTerm ⟨_, rfl, rfl⟩ h9 (hg_X4_readTerm _ _ _ _) (by omega) (by decide) rfl (Nat.le_of_ble_eq_true rfl) (fun r12 _ => ?_)
  refine rhF.aload_n (pc := 52) dX4_readSum_52 0 rfl ?_
  refine rhF.get (pc := 53) (rhR _) dX4_readSum_53 fl_X4_91 h9 rfl ?_
  refine rhF.iload_n (pc := 56) dX4_readSum_56 2 rfl ?_
  refine rhF.iconst (pc := 57) (v := 0) dX4_readSum_57 (by decide) ?_
  refine rhF.ck (fun h13 => ?_)
  refine rhF.callV (pc := 58) (ci := 1) (embc := rhe1U _) [rhI _, rhI _] dX4_readSum_58 ml_X4_202 mv_X1_addStep ⟨_, rfl, rfl⟩ h13 (c_X1_addStep _ _ _ _ _ _) (by omega) (by decide) rfl (Nat.le_of_ble_eq_true rfl) (fun r14 _ => ?_)
  refine rhF.aload_n (pc := 61) dX4_readSum_61 0 rfl ?_
  refine rhF.get (pc := 62) (rhR _) dX4_readSum_62 fl_X4_18 h9 rfl ?_
  refine rhF.ck (fun h15 => ?_)
  refine rhF.get (pc := 65) (rhI _) dX4_readSum_65 fl_X4_129 h15 rfl ?_
  refine rhF.istore_n (pc := 68) (L' := [(2, rhI _), (0, rhR _), (1, rhI _), (3, rhI _)]) dX4_readSum_68 (by decide) rfl ?_
  refine rhF.iinc (pc := 69) (L' := [(3, rhI _), (2, rhI _), (0, rhR _), (1, rhI _)]) dX4_readSum_69 3 rfl rfl (by decide) rfl ?_
  refine rhF.goto (pc := 72) 15 dX4_readSum_72 (by decide) ?_
  refine rhF.sub [2, 3, 1, 0] rfl ?_
  exact hk15 _ _ _ _ _
set_option maxHeartbeats 4000000 in
set_option maxRecDepth 100000 in
theorem b_X4_readSum_15 {E : rhE} {dp : Nat} {g_X4_readBoth : rhG → rhM → Nat → Int32 → Option (rhM)} {g_X4_readEither : rhG → rhM → Nat → Int32 → Option (rhM)} {g_X4_readNot : rhG → rhM → Nat → Int32 → Option (rhM)} {g_X4_readOne : rhG → rhM → Nat → Int32 → Option (rhM)} {g_X4_readSum : rhG → rhM → Nat → Int32 → Option (rhM)} {g_X4_readTerm : rhG → rhM → Nat → Int32 → Option (rhM)} {g_X4_readUnit : rhG → rhM → Nat → Int32 → Option (rhM)} {Γ : rhG} (hg_X4_readBoth : ∀ (Γ : rhG) (M : rhM) (v0 : Nat) (v1 : Int32) (a : rhM), g_X4_readBoth Γ M v0 v1 = some a → rhC E (8 + dp) yX4_readBoth cX4_readBoth 3 none [rhR v0, rhI v1] Γ M ((rhe1U Γ) a)) (hg_X4_readEither : ∀ (Γ : rhG) (M : rhM) (v0 : Nat) (v1 : Int32) (a : rhM), g_X4_readEither Γ M v0 v1 = some a → rhC E (8 + dp) yX4_readEither cX4_readEither 3 none [rhR v0, rhI v1] Γ M ((rhe1U Γ) a)) (hg_X4_readNot : ∀ (Γ : rhG) (M : rhM) (v0 : Nat) (v1 : Int32) (a : rhM), g_X4_readNot Γ M v0 v1 = some a → rhC E (8 + dp) yX4_readNot cX4_readNot 2 none [rhR v0, rhI v1] Γ M ((rhe1U Γ) a)) (hg_X4_readOne : ∀ (Γ : rhG) (M : rhM) (v0 : Nat) (v1 : Int32) (a : rhM), g_X4_readOne Γ M v0 v1 = some a → rhC E (8 + dp) yX4_readOne cX4_readOne 3 none [rhR v0, rhI v1] Γ M ((rhe1U Γ) a)) (hg_X4_readSum : ∀ (Γ : rhG) (M : rhM) (v0 : Nat) (v1 : Int32) (a : rhM), g_X4_readSum Γ M v0 v1 = some a → rhC E (8 + dp) yX4_readSum cX4_readSum 4 none [rhR v0, rhI v1] Γ M ((rhe1U Γ) a)) (hg_X4_readTerm : ∀ (Γ : rhG) (M : rhM) (v0 : Nat) (v1 : Int32) (a : rhM), g_X4_readTerm Γ M v0 v1 = some a → rhC E (8 + dp) yX4_readTerm cX4_readTerm 4 none [rhR v0, rhI v1] Γ M ((rhe1U Γ) a)) (hg_X4_readUnit : ∀ (Γ : rhG) (M : rhM) (v0 : Nat) (v1 : Int32) (a : rhM), g_X4_readUnit Γ M v0 v1 = some a → rhC E (8 + dp) yX4_readUnit cX4_readUnit 2 none [rhR v0, rhI v1] Γ M ((rhe1U Γ) a)) : ∀ (n : Nat) (M : rhM) (v0 : Nat) (v1 : Int32) (v2 : Int32) (v3 : Int32), rhF E (8 + (dp + 1)) 4 yX4_readSum cX4_readSum none Γ (rhe1U Γ) (f_X4_readSum_15 g_X4_readBoth g_X4_readEither g_X4_readNot g_X4_readOne g_X4_readSum g_X4_readTerm g_X4_readUnit Γ n M v0 v1 v2 v3) 15 [(0, rhR v0), (1, rhI v1), (2, rhI v2), (3, rhI v3)] [] Γ M := by
  intro n
  induction n with
  | zero => intro M v0 v1 v2 v3; rw [f_X4_readSum_15]; exact rhF.nope
  | succ n ih =>
    intro M v0 v1 v2 v3
    rw [f_X4_readSum_15]
    refine rhF.iload_n (pc := 15) dX4_readSum_15 3 rfl ?_
    refine rhF.bipush (pc := 16) (v := 40) dX4_readSum_16 (by decide) ?_
    refine rhF.icmp_ge (pc := 18) 75 dX4_readSum_18 (by decide) (fun h5 => ?_) (fun h5 => ?_)
    · refine rhF.aload_n (pc := 21) dX4_readSum_21 0 rfl ?_
      refine rhF.ck (fun h6 => ?_)
      refine rhF.get (pc := 22) (rhI _) dX4_readSum_22 fl_X4_43 h6 rfl ?_
      refine rhF.if_ne (pc := 25) 75 dX4_readSum_25 (by decide) (fun h7 => ?_) (fun h7 => ?_)
      · refine rhF.iload_n (pc := 28) dX4_readSum_28 2 rfl ?_
        refine rhF.bipush (pc := 29) (v := 43) dX4_readSum_29 (by decide) ?_
        refine rhF.icmp_eq (pc := 31) 40 dX4_readSum_31 (by decide) (fun h8 => ?_) (fun h8 => ?_)
        · exact (b_X4_readSum_40 hg_X4_readBoth hg_X4_readEither hg_X4_readNot hg_X4_readOne hg_X4_readSum hg_X4_readTerm hg_X4_readUnit ih) _ _ _ _ _
        · refine rhF.iload_n (pc := 34) dX4_readSum_34 2 rfl ?_
          refine rhF.bipush (pc := 35) (v := 45) dX4_readSum_35 (by decide) ?_
          refine rhF.icmp_ne (pc := 37) 75 dX4_readSum_37 (by decide) (fun h18 => ?_) (fun h18 => ?_)
          · exact (b_X4_readSum_40 hg_X4_readBoth hg_X4_readEither hg_X4_readNot hg_X4_readOne hg_X4_readSum hg_X4_readTerm hg_X4_readUnit ih) _ _ _ _ _
          · exact rhF.vret (pc := 75) dX4_readSum_75 rfl rfl
      · exact rhF.vret (pc := 75) dX4_readSum_75 rfl rfl
    · exact rhF.vret (pc := 75) dX4_readSum_75 rfl rfl
set_option maxHeartbeats 4000000 in
set_option maxRecDepth 100000 in
theorem b_X4_readSum {E : rhE} {dp : Nat} {g_X4_readBoth : rhG → rhM → Nat → Int32 → Option (rhM)} {g_X4_readEither : rhG → rhM → Nat → Int32 → Option (rhM)} {g_X4_readNot : rhG → rhM → Nat → Int32 → Option (rhM)} {g_X4_readOne : rhG → rhM → Nat → Int32 → Option (rhM)} {g_X4_readSum : rhG → rhM → Nat → Int32 → Option (rhM)} {g_X4_readTerm : rhG → rhM → Nat → Int32 → Option (rhM)} {g_X4_readUnit : rhG → rhM → Nat → Int32 → Option (rhM)} {Γ : rhG} (hg_X4_readBoth : ∀ (Γ : rhG) (M : rhM) (v0 : Nat) (v1 : Int32) (a : rhM), g_X4_readBoth Γ M v0 v1 = some a → rhC E (8 + dp) yX4_readBoth cX4_readBoth 3 none [rhR v0, rhI v1] Γ M ((rhe1U Γ) a)) (hg_X4_readEither : ∀ (Γ : rhG) (M : rhM) (v0 : Nat) (v1 : Int32) (a : rhM), g_X4_readEither Γ M v0 v1 = some a → rhC E (8 + dp) yX4_readEither cX4_readEither 3 none [rhR v0, rhI v1] Γ M ((rhe1U Γ) a)) (hg_X4_readNot : ∀ (Γ : rhG) (M : rhM) (v0 : Nat) (v1 : Int32) (a : rhM), g_X4_readNot Γ M v0 v1 = some a → rhC E (8 + dp) yX4_readNot cX4_readNot 2 none [rhR v0, rhI v1] Γ M ((rhe1U Γ) a)) (hg_X4_readOne : ∀ (Γ : rhG) (M : rhM) (v0 : Nat) (v1 : Int32) (a : rhM), g_X4_readOne Γ M v0 v1 = some a → rhC E (8 + dp) yX4_readOne cX4_readOne 3 none [rhR v0, rhI v1] Γ M ((rhe1U Γ) a)) (hg_X4_readSum : ∀ (Γ : rhG) (M : rhM) (v0 : Nat) (v1 : Int32) (a : rhM), g_X4_readSum Γ M v0 v1 = some a → rhC E (8 + dp) yX4_readSum cX4_readSum 4 none [rhR v0, rhI v1] Γ M ((rhe1U Γ) a)) (hg_X4_readTerm : ∀ (Γ : rhG) (M : rhM) (v0 : Nat) (v1 : Int32) (a : rhM), g_X4_readTerm Γ M v0 v1 = some a → rhC E (8 + dp) yX4_readTerm cX4_readTerm 4 none [rhR v0, rhI v1] Γ M ((rhe1U Γ) a)) (hg_X4_readUnit : ∀ (Γ : rhG) (M : rhM) (v0 : Nat) (v1 : Int32) (a : rhM), g_X4_readUnit Γ M v0 v1 = some a → rhC E (8 + dp) yX4_readUnit cX4_readUnit 2 none [rhR v0, rhI v1] Γ M ((rhe1U Γ) a)) : ∀ (M : rhM) (v0 : Nat) (v1 : Int32), rhF E (8 + (dp + 1)) 4 yX4_readSum cX4_readSum none Γ (rhe1U Γ) (f_X4_readSum g_X4_readBoth g_X4_readEither g_X4_readNot g_X4_readOne g_X4_readSum g_X4_readTerm g_X4_readUnit Γ M v0 v1) 0 [(0, rhR v0), (1, rhI v1)] [] Γ M := by
  intro M v0 v1
  rw [f_X4_readSum]
  refine rhF.aload_n (pc := 0) dX4_readSum_0 0 rfl ?_
  refine rhF.iload_n (pc := 1) dX4_readSum_1 1 rfl ?_
  refine rhF.ck (fun h1 => ?_)
  refine rhF.callV (pc := 2) (ci := 4) (embc := rhe1U _) [rhI _] dX4_readSum_2 ml_X4_216 mv_X4_readTerm ⟨_, rfl, rfl⟩ h1 (hg_X4_readTerm _ _ _ _) (by omega) (by decide) rfl (Nat.le_of_ble_eq_true rfl) (fun r2 _ => ?_)
  refine rhF.aload_n (pc := 5) dX4_readSum_5 0 rfl ?_
  refine rhF.get (pc := 6) (rhR _) dX4_readSum_6 fl_X4_18 h1 rfl ?_
  refine rhF.ck (fun h3 => ?_)
  refine rhF.get (pc := 9) (rhI _) dX4_readSum_9 fl_X4_129 h3 rfl ?_
  refine rhF.istore_n (pc := 12) (L' := [(2, rhI _), (0, rhR _), (1, rhI _)]) dX4_readSum_12 (by decide) rfl ?_
  refine rhF.iconst (pc := 13) (v := 0) dX4_readSum_13 (by decide) ?_
  refine rhF.istore_n (pc := 14) (L' := [(3, rhI _), (2, rhI _), (0, rhR _), (1, rhI _)]) dX4_readSum_14 (by decide) rfl ?_
  refine rhF.sub [2, 3, 1, 0] rfl ?_
  exact (b_X4_readSum_15 hg_X4_readBoth hg_X4_readEither hg_X4_readNot hg_X4_readOne hg_X4_readSum hg_X4_readTerm hg_X4_readUnit rhFU) _ _ _ _ _
set_option maxHeartbeats 4000000 in
set_option maxRecDepth 100000 in
theorem b_X4_readTerm_40 {E : rhE} {dp : Nat} {g_X4_readBoth : rhG → rhM → Nat → Int32 → Option (rhM)} {g_X4_readEither : rhG → rhM → Nat → Int32 → Option (rhM)} {g_X4_readNot : rhG → rhM → Nat → Int32 → Option (rhM)} {g_X4_readOne : rhG → rhM → Nat → Int32 → Option (rhM)} {g_X4_readSum : rhG → rhM → Nat → Int32 → Option (rhM)} {g_X4_readTerm : rhG → rhM → Nat → Int32 → Option (rhM)} {g_X4_readUnit : rhG → rhM → Nat → Int32 → Option (rhM)} {Γ : rhG} {k15 : rhM → Nat → Int32 → Int32 → Int32 → Option (rhM)} (hg_X4_readBoth : ∀ (Γ : rhG) (M : rhM) (v0 : Nat) (v1 : Int32) (a : rhM), g_X4_readBoth Γ M v0 v1 = some a → rhC E (8 + dp) yX4_readBoth cX4_readBoth 3 none [rhR v0, rhI v1] Γ M ((rhe1U Γ) a)) (hg_X4_readEither : ∀ (Γ : rhG) (M : rhM) (v0 : Nat) (v1 : Int32) (a : rhM), g_X4_readEither Γ M v0 v1 = some a → rhC E (8 + dp) yX4_readEither cX4_readEither 3 none [rhR v0, rhI v1] Γ M ((rhe1U Γ) a)) (hg_X4_readNot : ∀ (Γ : rhG) (M : rhM) (v0 : Nat) (v1 : Int32) (a : rhM), g_X4_readNot Γ M v0 v1 = some a → rhC E (8 + dp) yX4_readNot cX4_readNot 2 none [rhR v0, rhI v1] Γ M ((rhe1U Γ) a)) (hg_X4_readOne : ∀ (Γ : rhG) (M : rhM) (v0 : Nat) (v1 : Int32) (a : rhM), g_X4_readOne Γ M v0 v1 = some a → rhC E (8 + dp) yX4_readOne cX4_readOne 3 none [rhR v0, rhI v1] Γ M ((rhe1U Γ) a)) (hg_X4_readSum : ∀ (Γ : rhG) (M : rhM) (v0 : Nat) (v1 : Int32) (a : rhM), g_X4_readSum Γ M v0 v1 = some a → rhC E (8 + dp) yX4_readSum cX4_readSum 4 none [rhR v0, rhI v1] Γ M ((rhe1U Γ) a)) (hg_X4_readTerm : ∀ (Γ : rhG) (M : rhM) (v0 : Nat) (v1 : Int32) (a : rhM), g_X4_readTerm Γ M v0 v1 = some a → rhC E (8 + dp) yX4_readTerm cX4_readTerm 4 none [rhR v0, rhI v1] Γ M ((rhe1U Γ) a)) (hg_X4_readUnit : ∀ (Γ : rhG) (M : rhM) (v0 : Nat) (v1 : Int32) (a : rhM), g_X4_readUnit Γ M v0 v1 = some a → rhC E (8 + dp) yX4_readUnit cX4_readUnit 2 none [rhR v0, rhI v1] Γ M ((rhe1U Γ) a)) (hk15 : ∀ (M : rhM) (v0 : Nat) (v1 : Int32) (v2 : Int32) (v3 : Int32), rhF E (8 + (dp + 1)) 4 yX4_readTerm cX4_readTerm none Γ (rhe1U Γ) (k15 M v0 v1 v2 v3) 15 [(0, rhR v0), (1, rhI v1), (2, rhI v2), (3, rhI v3)] [] Γ M) : ∀ (M : rhM) (v0 : Nat) (v1 : Int32) (v2 : Int32) (v3 : Int32), rhF E (8 + (dp + 1)) 4 yX4_readTerm cX4_readTerm none Γ (rhe1U Γ) (f_X4_readTerm_40 g_X4_readBoth g_X4_readEither g_X4_readNot g_X4_readOne g_X4_readSum g_X4_readTerm g_X4_readUnit k15 Γ M v0 v1 v2 v3) 40 [(0, rhR v0), (1, rhI v1), (2, rhI v2), (3, rhI v3)] [] Γ M := by
  intro M v0 v1 v2 v3
  rw [f_X4_readTerm_40]
  refine rhF.aload_n (pc := 40) dX4_readTerm_40 0 rfl ?_
  refine rhF.ck (fun h9 => ?_)
  refine rhF.get (pc := 41) (rhR _) dX4_readTerm_41 fl_X4_18 h9 rfl ?_
  refine rhF.ck (fun h10 => ?_)
  refine rhF.callV (pc := 44) (ci := 8) (embc := rhe1U _) [] dX4_readTerm_44 ml_X4_126 mv_X8_advance ⟨_, rfl, rfl⟩ h10 (c_X8_advance _ _ _ _) (by omega) (by decide) rfl (Nat.le_of_ble_eq_true rfl) (fun r11 _ => ?_)
  refine rhF.aload_n (pc := 47) dX4_readTerm_47 0 rfl ?_
  refine rhF.iload_n (pc := 48) dX4_readTerm_48 1 rfl ?_
  refine rhF.callV (pc := 49) (ci := 4) (embc := rhe1U _) [rhI _] dX4_readTerm_49 ml_X4_219 mv_X4_readUnit ⟨_, rfl, rfl⟩ h9 (hg_X4_readUnit _ _ _ _) (by omega) (by decide) rfl (Nat.le_of_ble_eq_true rfl) (fun r12 _ => ?_)
  refine rhF.aload_n (pc := 52) dX4_readTerm_52 0 rfl ?_
  refine rhF.get (pc := 53) (rhR _) dX4_readTerm_53 fl_X4_91 h9 rfl ?_
  refine rhF.iload_n (pc := 56) dX4_readTerm_56 2 rfl ?_
  refine rhF.iconst (pc := 57) (v := 0) dX4_readTerm_57 (by decide) ?_
  refine rhF.ck (fun h13 => ?_)
  refine rhF.callV (pc := 58) (ci := 1) (embc := rhe1U _) [rhI _, rhI _] dX4_readTerm_58 ml_X4_202 mv_X1_addStep ⟨_, rfl, rfl⟩ h13 (c_X1_addStep _ _ _ _ _ _) (by omega) (by decide) rfl (Nat.le_of_ble_eq_true rfl) (fun r14 _ => ?_)
  refine rhF.aload_n (pc := 61) dX4_readTerm_61 0 rfl ?_
  refine rhF.get (pc := 62) (rhR _) dX4_readTerm_62 fl_X4_18 h9 rfl ?_
  refine rhF.ck (fun h15 => ?_)
  refine rhF.get (pc := 65) (rhI _) dX4_readTerm_65 fl_X4_129 h15 rfl ?_
  refine rhF.istore_n (pc := 68) (L' := [(2, rhI _), (0, rhR _), (1, rhI _), (3, rhI _)]) dX4_readTerm_68 (by decide) rfl ?_
  refine rhF.iinc (pc := 69) (L' := [(3, rhI _), (2, rhI _), (0, rhR _), (1, rhI _)]) dX4_readTerm_69 3 rfl rfl (by decide) rfl ?_
  refine rhF.goto (pc := 72) 15 dX4_readTerm_72 (by decide) ?_
  refine rhF.sub [2, 3, 1, 0] rfl ?_
  exact hk15 _ _ _ _ _
set_option maxHeartbeats 4000000 in
set_option maxRecDepth 100000 in
theorem b_X4_readTerm_15 {E : rhE} {dp : Nat} {g_X4_readBoth : rhG → rhM → Nat → Int32 → Option (rhM)} {g_X4_readEither : rhG → rhM → Nat → Int32 → Option (rhM)} {g_X4_readNot : rhG → rhM → Nat → Int32 → Option (rhM)} {g_X4_readOne : rhG → rhM → Nat → Int32 → Option (rhM)} {g_X4_readSum : rhG → rhM → Nat → Int32 → Option (rhM)} {g_X4_readTerm : rhG → rhM → Nat → Int32 → Option (rhM)} {g_X4_readUnit : rhG → rhM → Nat → Int32 → Option (rhM)} {Γ : rhG} (hg_X4_readBoth : ∀ (Γ : rhG) (M : rhM) (v0 : Nat) (v1 : Int32) (a : rhM), g_X4_readBoth Γ M v0 v1 = some a → rhC E (8 + dp) yX4_readBoth cX4_readBoth 3 none [rhR v0, rhI v1] Γ M ((rhe1U Γ) a)) (hg_X4_readEither : ∀ (Γ : rhG) (M : rhM) (v0 : Nat) (v1 : Int32) (a : rhM), g_X4_readEither Γ M v0 v1 = some a → rhC E (8 + dp) yX4_readEither cX4_readEither 3 none [rhR v0, rhI v1] Γ M ((rhe1U Γ) a)) (hg_X4_readNot : ∀ (Γ : rhG) (M : rhM) (v0 : Nat) (v1 : Int32) (a : rhM), g_X4_readNot Γ M v0 v1 = some a → rhC E (8 + dp) yX4_readNot cX4_readNot 2 none [rhR v0, rhI v1] Γ M ((rhe1U Γ) a)) (hg_X4_readOne : ∀ (Γ : rhG) (M : rhM) (v0 : Nat) (v1 : Int32) (a : rhM), g_X4_readOne Γ M v0 v1 = some a → rhC E (8 + dp) yX4_readOne cX4_readOne 3 none [rhR v0, rhI v1] Γ M ((rhe1U Γ) a)) (hg_X4_readSum : ∀ (Γ : rhG) (M : rhM) (v0 : Nat) (v1 : Int32) (a : rhM), g_X4_readSum Γ M v0 v1 = some a → rhC E (8 + dp) yX4_readSum cX4_readSum 4 none [rhR v0, rhI v1] Γ M ((rhe1U Γ) a)) (hg_X4_readTerm : ∀ (Γ : rhG) (M : rhM) (v0 : Nat) (v1 : Int32) (a : rhM), g_X4_readTerm Γ M v0 v1 = some a → rhC E (8 + dp) yX4_readTerm cX4_readTerm 4 none [rhR v0, rhI v1] Γ M ((rhe1U Γ) a)) (hg_X4_readUnit : ∀ (Γ : rhG) (M : rhM) (v0 : Nat) (v1 : Int32) (a : rhM), g_X4_readUnit Γ M v0 v1 = some a → rhC E (8 + dp) yX4_readUnit cX4_readUnit 2 none [rhR v0, rhI v1] Γ M ((rhe1U Γ) a)) : ∀ (n : Nat) (M : rhM) (v0 : Nat) (v1 : Int32) (v2 : Int32) (v3 : Int32), rhF E (8 + (dp + 1)) 4 yX4_readTerm cX4_readTerm none Γ (rhe1U Γ) (f_X4_readTerm_15 g_X4_readBoth g_X4_readEither g_X4_readNot g_X4_readOne g_X4_readSum g_X4_readTerm g_X4_readUnit Γ n M v0 v1 v2 v3) 15 [(0, rhR v0), (1, rhI v1), (2, rhI v2), (3, rhI v3)] [] Γ M := by
  intro n
  induction n with
  | zero => intro M v0 v1 v2 v3; rw [f_X4_readTerm_15]; exact rhF.nope
  | succ n ih =>
    intro M v0 v1 v2 v3
    rw [f_X4_readTerm_15]
    refine rhF.iload_n (pc := 15) dX4_readTerm_15 3 rfl ?_
    refine rhF.bipush (pc := 16) (v := 40) dX4_readTerm_16 (by decide) ?_
    refine rhF.icmp_ge (pc := 18) 75 dX4_readTerm_18 (by decide) (fun h5 => ?_) (fun h5 => ?_)
    · refine rhF.aload_n (pc := 21) dX4_readTerm_21 0 rfl ?_
      refine rhF.ck (fun h6 => ?_)
      refine rhF.get (pc := 22) (rhI _) dX4_readTerm_22 fl_X4_43 h6 rfl ?_
      refine rhF.if_ne (pc := 25) 75 dX4_readTerm_25 (by decide) (fun h7 => ?_) (fun h7 => ?_)
      · refine rhF.iload_n (pc := 28) dX4_readTerm_28 2 rfl ?_
        refine rhF.bipush (pc := 29) (v := 42) dX4_readTerm_29 (by decide) ?_
        refine rhF.icmp_eq (pc := 31) 40 dX4_readTerm_31 (by decide) (fun h8 => ?_) (fun h8 => ?_)
        · exact (b_X4_readTerm_40 hg_X4_readBoth hg_X4_readEither hg_X4_readNot hg_X4_readOne hg_X4_readSum hg_X4_readTerm hg_X4_readUnit ih) _ _ _ _ _
        · refine rhF.iload_n (pc := 34) dX4_readTerm_34 2 rfl ?_
          refine rhF.bipush (pc := 35) (v := 47) dX4_readTerm_35 (by decide) ?_
          refine rhF.icmp_ne (pc := 37) 75 dX4_readTerm_37 (by decide) (fun h18 => ?_) (fun h18 => ?_)
          · exact (b_X4_readTerm_40 hg_X4_readBoth hg_X4_readEither hg_X4_readNot hg_X4_readOne hg_X4_readSum hg_X4_readTerm hg_X4_readUnit ih) _ _ _ _ _
          · exact rhF.vret (pc := 75) dX4_readTerm_75 rfl rfl
      · exact rhF.vret (pc := 75) dX4_readTerm_75 rfl rfl
    · exact rhF.vret (pc := 75) dX4_readTerm_75 rfl rfl
set_option maxHeartbeats 4000000 in
set_option maxRecDepth 100000 in
theorem b_X4_readTerm {E : rhE} {dp : Nat} {g_X4_readBoth : rhG → rhM → Nat → Int32 → Option (rhM)} {g_X4_readEither : rhG → rhM → Nat → Int32 → Option (rhM)} {g_X4_readNot : rhG → rhM → Nat → Int32 → Option (rhM)} {g_X4_readOne : rhG → rhM → Nat → Int32 → Option (rhM)} {g_X4_readSum : rhG → rhM → Nat → Int32 → Option (rhM)} {g_X4_readTerm : rhG → rhM → Nat → Int32 → Option (rhM)} {g_X4_readUnit : rhG → rhM → Nat → Int32 → Option (rhM)} {Γ : rhG} (hg_X4_readBoth : ∀ (Γ : rhG) (M : rhM) (v0 : Nat) (v1 : Int32) (a : rhM), g_X4_readBoth Γ M v0 v1 = some a → rhC E (8 + dp) yX4_readBoth cX4_readBoth 3 none [rhR v0, rhI v1] Γ M ((rhe1U Γ) a)) (hg_X4_readEither : ∀ (Γ : rhG) (M : rhM) (v0 : Nat) (v1 : Int32) (a : rhM), g_X4_readEither Γ M v0 v1 = some a → rhC E (8 + dp) yX4_readEither cX4_readEither 3 none [rhR v0, rhI v1] Γ M ((rhe1U Γ) a)) (hg_X4_readNot : ∀ (Γ : rhG) (M : rhM) (v0 : Nat) (v1 : Int32) (a : rhM), g_X4_readNot Γ M v0 v1 = some a → rhC E (8 + dp) yX4_readNot cX4_readNot 2 none [rhR v0, rhI v1] Γ M ((rhe1U Γ) a)) (hg_X4_readOne : ∀ (Γ : rhG) (M : rhM) (v0 : Nat) (v1 : Int32) (a : rhM), g_X4_readOne Γ M v0 v1 = some a → rhC E (8 + dp) yX4_readOne cX4_readOne 3 none [rhR v0, rhI v1] Γ M ((rhe1U Γ) a)) (hg_X4_readSum : ∀ (Γ : rhG) (M : rhM) (v0 : Nat) (v1 : Int32) (a : rhM), g_X4_readSum Γ M v0 v1 = some a → rhC E (8 + dp) yX4_readSum cX4_readSum 4 none [rhR v0, rhI v1] Γ M ((rhe1U Γ) a)) (hg_X4_readTerm : ∀ (Γ : rhG) (M : rhM) (v0 : Nat) (v1 : Int32) (a : rhM), g_X4_readTerm Γ M v0 v1 = some a → rhC E (8 + dp) yX4_readTerm cX4_readTerm 4 none [rhR v0, rhI v1] Γ M ((rhe1U Γ) a)) (hg_X4_readUnit : ∀ (Γ : rhG) (M : rhM) (v0 : Nat) (v1 : Int32) (a : rhM), g_X4_readUnit Γ M v0 v1 = some a → rhC E (8 + dp) yX4_readUnit cX4_readUnit 2 none [rhR v0, rhI v1] Γ M ((rhe1U Γ) a)) : ∀ (M : rhM) (v0 : Nat) (v1 : Int32), rhF E (8 + (dp + 1)) 4 yX4_readTerm cX4_readTerm none Γ (rhe1U Γ) (f_X4_readTerm g_X4_readBoth g_X4_readEither g_X4_readNot g_X4_readOne g_X4_readSum g_X4_readTerm g_X4_readUnit Γ M v0 v1) 0 [(0, rhR v0), (1, rhI v1)] [] Γ M := by
  intro M v0 v1
  rw [f_X4_readTerm]
  refine rhF.aload_n (pc := 0) dX4_readTerm_0 0 rfl ?_
  refine rhF.iload_n (pc := 1) dX4_readTerm_1 1 rfl ?_
  refine rhF.ck (fun h1 => ?_)
  refine rhF.callV (pc := 2) (ci := 4) (embc := rhe1U _) [rhI _] dX4_readTerm_2 ml_X4_219 mv_X4_readUnit ⟨_, rfl, rfl⟩ h1 (hg_X4_readUnit _ _ _ _) (by omega) (by decide) rfl (Nat.le_of_ble_eq_true rfl) (fun r2 _ => ?_)
  refine rhF.aload_n (pc := 5) dX4_readTerm_5 0 rfl ?_
  refine rhF.get (pc := 6) (rhR _) dX4_readTerm_6 fl_X4_18 h1 rfl ?_
  refine rhF.ck (fun h3 => ?_)
  refine rhF.get (pc := 9) (rhI _) dX4_readTerm_9 fl_X4_129 h3 rfl ?_
  refine rhF.istore_n (pc := 12) (L' := [(2, rhI _), (0, rhR _), (1, rhI _)]) dX4_readTerm_12 (by decide) rfl ?_
  refine rhF.iconst (pc := 13) (v := 0) dX4_readTerm_13 (by decide) ?_
  refine rhF.istore_n (pc := 14) (L' := [(3, rhI _), (2, rhI _), (0, rhR _), (1, rhI _)]) dX4_readTerm_14 (by decide) rfl ?_
  refine rhF.sub [2, 3, 1, 0] rfl ?_
  exact (b_X4_readTerm_15 hg_X4_readBoth hg_X4_readEither hg_X4_readNot hg_X4_readOne hg_X4_readSum hg_X4_readTerm hg_X4_readUnit rhFU) _ _ _ _ _
set_option maxHeartbeats 4000000 in
set_option maxRecDepth 100000 in
theorem b_X4_readUnit_201 {E : rhE} {dp : Nat} {g_X4_readBoth : rhG → rhM → Nat → Int32 → Option (rhM)} {g_X4_readEither : rhG → rhM → Nat → Int32 → Option (rhM)} {g_X4_readNot : rhG → rhM → Nat → Int32 → Option (rhM)} {g_X4_readOne : rhG → rhM → Nat → Int32 → Option (rhM)} {g_X4_readSum : rhG → rhM → Nat → Int32 → Option (rhM)} {g_X4_readTerm : rhG → rhM → Nat → Int32 → Option (rhM)} {g_X4_readUnit : rhG → rhM → Nat → Int32 → Option (rhM)} {Γ : rhG} (hg_X4_readBoth : ∀ (Γ : rhG) (M : rhM) (v0 : Nat) (v1 : Int32) (a : rhM), g_X4_readBoth Γ M v0 v1 = some a → rhC E (8 + dp) yX4_readBoth cX4_readBoth 3 none [rhR v0, rhI v1] Γ M ((rhe1U Γ) a)) (hg_X4_readEither : ∀ (Γ : rhG) (M : rhM) (v0 : Nat) (v1 : Int32) (a : rhM), g_X4_readEither Γ M v0 v1 = some a → rhC E (8 + dp) yX4_readEither cX4_readEither 3 none [rhR v0, rhI v1] Γ M ((rhe1U Γ) a)) (hg_X4_readNot : ∀ (Γ : rhG) (M : rhM) (v0 : Nat) (v1 : Int32) (a : rhM), g_X4_readNot Γ M v0 v1 = some a → rhC E (8 + dp) yX4_readNot cX4_readNot 2 none [rhR v0, rhI v1] Γ M ((rhe1U Γ) a)) (hg_X4_readOne : ∀ (Γ : rhG) (M : rhM) (v0 : Nat) (v1 : Int32) (a : rhM), g_X4_readOne Γ M v0 v1 = some a → rhC E (8 + dp) yX4_readOne cX4_readOne 3 none [rhR v0, rhI v1] Γ M ((rhe1U Γ) a)) (hg_X4_readSum : ∀ (Γ : rhG) (M : rhM) (v0 : Nat) (v1 : Int32) (a : rhM), g_X4_readSum Γ M v0 v1 = some a → rhC E (8 + dp) yX4_readSum cX4_readSum 4 none [rhR v0, rhI v1] Γ M ((rhe1U Γ) a)) (hg_X4_readTerm : ∀ (Γ : rhG) (M : rhM) (v0 : Nat) (v1 : Int32) (a : rhM), g_X4_readTerm Γ M v0 v1 = some a → rhC E (8 + dp) yX4_readTerm cX4_readTerm 4 none [rhR v0, rhI v1] Γ M ((rhe1U Γ) a)) (hg_X4_readUnit : ∀ (Γ : rhG) (M : rhM) (v0 : Nat) (v1 : Int32) (a : rhM), g_X4_readUnit Γ M v0 v1 = some a → rhC E (8 + dp) yX4_readUnit cX4_readUnit 2 none [rhR v0, rhI v1] Γ M ((rhe1U Γ) a)) : ∀ (M : rhM) (v0 : Nat), rhF E (8 + (dp + 1)) 2 yX4_readUnit cX4_readUnit none Γ (rhe1U Γ) (f_X4_readUnit_201 g_X4_readBoth g_X4_readEither g_X4_readNot g_X4_readOne g_X4_readSum g_X4_readTerm g_X4_readUnit Γ M v0) 201 [(0, rhR v0)] [] Γ M := by
  intro M v0
  rw [f_X4_readUnit_201]
  refine rhF.aload_n (pc := 201) dX4_readUnit_201 0 rfl ?_
  refine rhF.ck (fun h24 => ?_)
  refine rhF.callV (pc := 202) (ci := 4) (embc := rhe1U _) [] dX4_readUnit_202 ml_X4_70 mv_X4_refuse ⟨_, rfl, rfl⟩ h24 (c_X4_refuse _ _ _ _) (by omega) (by decide) rfl (Nat.le_of_ble_eq_true rfl) (fun r25 _ => ?_)
  exact rhF.vret (pc := 205) dX4_readUnit_205 rfl rfl
set_option maxHeartbeats 4000000 in
set_option maxRecDepth 100000 in
theorem b_X4_readUnit_19 {E : rhE} {dp : Nat} {g_X4_readBoth : rhG → rhM → Nat → Int32 → Option (rhM)} {g_X4_readEither : rhG → rhM → Nat → Int32 → Option (rhM)} {g_X4_readNot : rhG → rhM → Nat → Int32 → Option (rhM)} {g_X4_readOne : rhG → rhM → Nat → Int32 → Option (rhM)} {g_X4_readSum : rhG → rhM → Nat → Int32 → Option (rhM)} {g_X4_readTerm : rhG → rhM → Nat → Int32 → Option (rhM)} {g_X4_readUnit : rhG → rhM → Nat → Int32 → Option (rhM)} {Γ : rhG} (hg_X4_readBoth : ∀ (Γ : rhG) (M : rhM) (v0 : Nat) (v1 : Int32) (a : rhM), g_X4_readBoth Γ M v0 v1 = some a → rhC E (8 + dp) yX4_readBoth cX4_readBoth 3 none [rhR v0, rhI v1] Γ M ((rhe1U Γ) a)) (hg_X4_readEither : ∀ (Γ : rhG) (M : rhM) (v0 : Nat) (v1 : Int32) (a : rhM), g_X4_readEither Γ M v0 v1 = some a → rhC E (8 + dp) yX4_readEither cX4_readEither 3 none [rhR v0, rhI v1] Γ M ((rhe1U Γ) a)) (hg_X4_readNot : ∀ (Γ : rhG) (M : rhM) (v0 : Nat) (v1 : Int32) (a : rhM), g_X4_readNot Γ M v0 v1 = some a → rhC E (8 + dp) yX4_readNot cX4_readNot 2 none [rhR v0, rhI v1] Γ M ((rhe1U Γ) a)) (hg_X4_readOne : ∀ (Γ : rhG) (M : rhM) (v0 : Nat) (v1 : Int32) (a : rhM), g_X4_readOne Γ M v0 v1 = some a → rhC E (8 + dp) yX4_readOne cX4_readOne 3 none [rhR v0, rhI v1] Γ M ((rhe1U Γ) a)) (hg_X4_readSum : ∀ (Γ : rhG) (M : rhM) (v0 : Nat) (v1 : Int32) (a : rhM), g_X4_readSum Γ M v0 v1 = some a → rhC E (8 + dp) yX4_readSum cX4_readSum 4 none [rhR v0, rhI v1] Γ M ((rhe1U Γ) a)) (hg_X4_readTerm : ∀ (Γ : rhG) (M : rhM) (v0 : Nat) (v1 : Int32) (a : rhM), g_X4_readTerm Γ M v0 v1 = some a → rhC E (8 + dp) yX4_readTerm cX4_readTerm 4 none [rhR v0, rhI v1] Γ M ((rhe1U Γ) a)) (hg_X4_readUnit : ∀ (Γ : rhG) (M : rhM) (v0 : Nat) (v1 : Int32) (a : rhM), g_X4_readUnit Γ M v0 v1 = some a → rhC E (8 + dp) yX4_readUnit cX4_readUnit 2 none [rhR v0, rhI v1] Γ M ((rhe1U Γ) a)) : ∀ (M : rhM) (v0 : Nat), rhF E (8 + (dp + 1)) 2 yX4_readUnit cX4_readUnit none Γ (rhe1U Γ) (f_X4_readUnit_19 g_X4_readBoth g_X4_readEither g_X4_readNot g_X4_readOne g_X4_readSum g_X4_readTerm g_X4_readUnit Γ M v0) 19 [(0, rhR v0)] [] Γ M := by
  intro M v0
  rw [f_X4_readUnit_19]
  refine rhF.aload_n (pc := 19) dX4_readUnit_19 0 rfl ?_
  refine rhF.ck (fun h29 => ?_)
  refine rhF.callV (pc := 20) (ci := 4) (embc := rhe1U _) [] dX4_readUnit_20 ml_X4_70 mv_X4_refuse ⟨_, rfl, rfl⟩ h29 (c_X4_refuse _ _ _ _) (by omega) (by decide) rfl (Nat.le_of_ble_eq_true rfl) (fun r30 _ => ?_)
  refine rhF.goto (pc := 23) 205 dX4_readUnit_23 (by decide) ?_
  exact rhF.vret (pc := 205) dX4_readUnit_205 rfl rfl
set_option maxHeartbeats 4000000 in
set_option maxRecDepth 100000 in
theorem b_X4_readUnit {E : rhE} {dp : Nat} {g_X4_readBoth : rhG → rhM → Nat → Int32 → Option (rhM)} {g_X4_readEither : rhG → rhM → Nat → Int32 → Option (rhM)} {g_X4_readNot : rhG → rhM → Nat → Int32 → Option (rhM)} {g_X4_readOne : rhG → rhM → Nat → Int32 → Option (rhM)} {g_X4_readSum : rhG → rhM → Nat → Int32 → Option (rhM)} {g_X4_readTerm : rhG → rhM → Nat → Int32 → Option (rhM)} {g_X4_readUnit : rhG → rhM → Nat → Int32 → Option (rhM)} {Γ : rhG} (hg_X4_readBoth : ∀ (Γ : rhG) (M : rhM) (v0 : Nat) (v1 : Int32) (a : rhM), g_X4_readBoth Γ M v0 v1 = some a → rhC E (8 + dp) yX4_readBoth cX4_readBoth 3 none [rhR v0, rhI v1] Γ M ((rhe1U Γ) a)) (hg_X4_readEither : ∀ (Γ : rhG) (M : rhM) (v0 : Nat) (v1 : Int32) (a : rhM), g_X4_readEither Γ M v0 v1 = some a → rhC E (8 + dp) yX4_readEither cX4_readEither 3 none [rhR v0, rhI v1] Γ M ((rhe1U Γ) a)) (hg_X4_readNot : ∀ (Γ : rhG) (M : rhM) (v0 : Nat) (v1 : Int32) (a : rhM), g_X4_readNot Γ M v0 v1 = some a → rhC E (8 + dp) yX4_readNot cX4_readNot 2 none [rhR v0, rhI v1] Γ M ((rhe1U Γ) a)) (hg_X4_readOne : ∀ (Γ : rhG) (M : rhM) (v0 : Nat) (v1 : Int32) (a : rhM), g_X4_readOne Γ M v0 v1 = some a → rhC E (8 + dp) yX4_readOne cX4_readOne 3 none [rhR v0, rhI v1] Γ M ((rhe1U Γ) a)) (hg_X4_readSum : ∀ (Γ : rhG) (M : rhM) (v0 : Nat) (v1 : Int32) (a : rhM), g_X4_readSum Γ M v0 v1 = some a → rhC E (8 + dp) yX4_readSum cX4_readSum 4 none [rhR v0, rhI v1] Γ M ((rhe1U Γ) a)) (hg_X4_readTerm : ∀ (Γ : rhG) (M : rhM) (v0 : Nat) (v1 : Int32) (a : rhM), g_X4_readTerm Γ M v0 v1 = some a → rhC E (8 + dp) yX4_readTerm cX4_readTerm 4 none [rhR v0, rhI v1] Γ M ((rhe1U Γ) a)) (hg_X4_readUnit : ∀ (Γ : rhG) (M : rhM) (v0 : Nat) (v1 : Int32) (a : rhM), g_X4_readUnit Γ M v0 v1 = some a → rhC E (8 + dp) yX4_readUnit cX4_readUnit 2 none [rhR v0, rhI v1] Γ M ((rhe1U Γ) a)) : ∀ (M : rhM) (v0 : Nat) (v1 : Int32), rhF E (8 + (dp + 1)) 2 yX4_readUnit cX4_readUnit none Γ (rhe1U Γ) (f_X4_readUnit g_X4_readBoth g_X4_readEither g_X4_readNot g_X4_readOne g_X4_readSum g_X4_readTerm g_X4_readUnit Γ M v0 v1) 0 [(0, rhR v0), (1, rhI v1)] [] Γ M := by
  intro M v0 v1
  rw [f_X4_readUnit]
  refine rhF.aload_n (pc := 0) dX4_readUnit_0 0 rfl ?_
  refine rhF.ck (fun h1 => ?_)
  refine rhF.get (pc := 1) (rhI _) dX4_readUnit_1 fl_X4_43 h1 rfl ?_
  refine rhF.if_ne (pc := 4) 19 dX4_readUnit_4 (by decide) (fun h2 => ?_) (fun h2 => ?_)
  · refine rhF.aload_n (pc := 7) dX4_readUnit_7 0 rfl ?_
    refine rhF.get (pc := 8) (rhR _) dX4_readUnit_8 fl_X4_91 h1 rfl ?_
    refine rhF.ck (fun h3 => ?_)
    refine rhF.get (pc := 11) (rhI _) dX4_readUnit_11 fl_X4_222 h3 rfl ?_
    refine rhF.bipush (pc := 14) (v := 40) dX4_readUnit_14 (by decide) ?_
    refine rhF.icmp_lt (pc := 16) 26 dX4_readUnit_16 (by decide) (fun h4 => ?_) (fun h4 => ?_)
    · refine rhF.aload_n (pc := 26) dX4_readUnit_26 0 rfl ?_
      refine rhF.get (pc := 27) (rhR _) dX4_readUnit_27 fl_X4_18 h1 rfl ?_
      refine rhF.ck (fun h5 => ?_)
      refine rhF.get (pc := 30) (rhI _) dX4_readUnit_30 fl_X4_46 h5 rfl ?_
      refine rhF.iconst (pc := 33) (v := 4) dX4_readUnit_33 (by decide) ?_
      refine rhF.icmp_ne (pc := 34) 63 dX4_readUnit_34 (by decide) (fun h6 => ?_) (fun h6 => ?_)
      · refine rhF.aload_n (pc := 37) dX4_readUnit_37 0 rfl ?_
        refine rhF.get (pc := 38) (rhR _) dX4_readUnit_38 fl_X4_91 h1 rfl ?_
        refine rhF.bipush (pc := 41) (v := 48) dX4_readUnit_41 (by decide) ?_
        refine rhF.aload_n (pc := 43) dX4_readUnit_43 0 rfl ?_
        refine rhF.get (pc := 44) (rhR _) dX4_readUnit_44 fl_X4_18 h1 rfl ?_
        refine rhF.get (pc := 47) (rhI _) dX4_readUnit_47 fl_X4_132 h5 rfl ?_
        refine rhF.callV (pc := 50) (ci := 1) (embc := rhe1U _) [rhI _, rhI _] dX4_readUnit_50 ml_X4_225 mv_X1_addUnit ⟨_, rfl, rfl⟩ h3 (c_X1_addUnit _ _ _ _ _ _) (by omega) (by decide) rfl (Nat.le_of_ble_eq_true rfl) (fun r7 _ => ?_)
        refine rhF.aload_n (pc := 53) dX4_readUnit_53 0 rfl ?_
        refine rhF.get (pc := 54) (rhR _) dX4_readUnit_54 fl_X4_18 h1 rfl ?_
        refine rhF.ck (fun h8 => ?_)
        refine rhF.callV (pc := 57) (ci := 8) (embc := rhe1U _) [] dX4_readUnit_57 ml_X4_126 mv_X8_advance ⟨_, rfl, rfl⟩ h8 (c_X8_advance _ _ _ _) (by omega) (by decide) rfl (Nat.le_of_ble_eq_true rfl) (fun r9 _ => ?_)
        refine rhF.goto (pc := 60) 205 dX4_readUnit_60 (by decide) ?_
        exact rhF.vret (pc := 205) dX4_readUnit_205 rfl rfl
      · refine rhF.aload_n (pc := 63) dX4_readUnit_63 0 rfl ?_
        refine rhF.get (pc := 64) (rhR _) dX4_readUnit_64 fl_X4_18 h1 rfl ?_
        refine rhF.get (pc := 67) (rhI _) dX4_readUnit_67 fl_X4_49 h5 rfl ?_
        refine rhF.bipush (pc := 70) (v := 17) dX4_readUnit_70 (by decide) ?_
        refine rhF.icmp_ne (pc := 72) 109 dX4_readUnit_72 (by decide) (fun h10 => ?_) (fun h10 => ?_)
        · refine rhF.aload_n (pc := 75) dX4_readUnit_75 0 rfl ?_
          refine rhF.get (pc := 76) (rhR _) dX4_readUnit_76 fl_X4_18 h1 rfl ?_
          refine rhF.callV (pc := 79) (ci := 8) (embc := rhe1U _) [] dX4_readUnit_79 ml_X4_126 mv_X8_advance ⟨_, rfl, rfl⟩ h5 (c_X8_advance _ _ _ _) (by omega) (by decide) rfl (Nat.le_of_ble_eq_true rfl) (fun r11 _ => ?_)
          refine rhF.aload_n (pc := 82) dX4_readUnit_82 0 rfl ?_
          refine rhF.get (pc := 83) (rhR _) dX4_readUnit_83 fl_X4_91 h1 rfl ?_
          refine rhF.bipush (pc := 86) (v := 17) dX4_readUnit_86 (by decide) ?_
          refine rhF.aload_n (pc := 88) dX4_readUnit_88 0 rfl ?_
          refine rhF.aload_n (pc := 89) dX4_readUnit_89 0 rfl ?_
          refine rhF.get (pc := 90) (rhR _) dX4_readUnit_90 fl_X4_26 h1 rfl ?_
          refine rhF.aload_n (pc := 93) dX4_readUnit_93 0 rfl ?_
          refine rhF.get (pc := 94) (rhR _) dX4_readUnit_94 fl_X4_73 h1 rfl ?_
          refine rhF.ck (fun h12 => ?_)
          refine rhF.get (pc := 97) (rhI _) dX4_readUnit_97 fl_X4_118 h12 rfl ?_
          refine rhF.callV (pc := 100) (ci := 4) (embc := rhe1I _) [rhR _, rhI _] dX4_readUnit_100 ml_X4_164 mv_X4_takeToldName ⟨_, rfl, rfl⟩ h1 (c_X4_takeToldName _ _ _ _ _ _) (by omega) (by decide) rfl (Nat.le_of_ble_eq_true rfl) (fun r13 _ => ?_)
          refine rhF.ck (fun h14 => ?_)
          refine rhF.callV (pc := 103) (ci := 1) (embc := rhe1U _) [rhI _, rhI _] dX4_readUnit_103 ml_X4_225 mv_X1_addUnit ⟨_, rfl, rfl⟩ h14 (c_X1_addUnit _ _ _ _ _ _) (by omega) (by decide) rfl (Nat.le_of_ble_eq_true rfl) (fun r15 _ => ?_)
          refine rhF.goto (pc := 106) 205 dX4_readUnit_106 (by decide) ?_
          exact rhF.vret (pc := 205) dX4_readUnit_205 rfl rfl
        · refine rhF.aload_n (pc := 109) dX4_readUnit_109 0 rfl ?_
          refine rhF.get (pc := 110) (rhR _) dX4_readUnit_110 fl_X4_18 h1 rfl ?_
          refine rhF.get (pc := 113) (rhI _) dX4_readUnit_113 fl_X4_49 h5 rfl ?_
          refine rhF.callS (pc := 116) (embc := rhe0I _ _) [rhI _] dX4_readUnit_116 ml_X4_228 ms_X1_isGiven (c_X1_isGiven _ _ _ _) (by omega) (by decide) rfl (Nat.le_of_ble_eq_true rfl) (fun r16 _ => ?_)
          refine rhF.if_eq (pc := 119) 147 dX4_readUnit_119 (by decide) (fun h17 => ?_) (fun h17 => ?_)
          · refine rhF.aload_n (pc := 147) dX4_readUnit_147 0 rfl ?_
            refine rhF.get (pc := 148) (rhR _) dX4_readUnit_148 fl_X4_18 h1 rfl ?_
            refine rhF.get (pc := 151) (rhI _) dX4_readUnit_151 fl_X4_129 h5 rfl ?_
            refine rhF.bipush (pc := 154) (v := 40) dX4_readUnit_154 (by decide) ?_
            refine rhF.icmp_ne (pc := 156) 201 dX4_readUnit_156 (by decide) (fun h18 => ?_) (fun h18 => ?_)
            · refine rhF.iload_n (pc := 159) dX4_readUnit_159 1 rfl ?_
              refine rhF.bipush (pc := 160) (v := 7) dX4_readUnit_160 (by decide) ?_
              refine rhF.icmp_ge (pc := 162) 201 dX4_readUnit_162 (by decide) (fun h19 => ?_) (fun h19 => ?_)
              · refine rhF.aload_n (pc := 165) dX4_readUnit_165 0 rfl ?_
                refine rhF.get (pc := 166) (rhR _) dX4_readUnit_166 fl_X4_91 h1 rfl ?_
                refine rhF.dupr (pc := 169) dX4_readUnit_169 ?_
                refine rhF.get (pc := 170) (rhI _) dX4_readUnit_170 fl_X4_222 h3 rfl ?_
                refine rhF.iconst (pc := 173) (v := 1) dX4_readUnit_173 (by decide) ?_
                refine rhF.iadd (pc := 174) dX4_readUnit_174 ?_
                refine rhF.puti (pc := 175) dX4_readUnit_175 fl_X4_222 h3 (fun q hq => by cases hq; exact Or.inl rfl) ⟨rfl, rfl⟩ (fun _ => rfl) ?_
                refine rhF.aload_n (pc := 178) dX4_readUnit_178 0 rfl ?_
                refine rhF.get (pc := 179) (rhR _) dX4_readUnit_179 fl_X4_18 h1 rfl ?_
                refine rhF.callV (pc := 182) (ci := 8) (embc := rhe1U _) [] dX4_readUnit_182 ml_X4_126 mv_X8_advance ⟨_, rfl, rfl⟩ h5 (c_X8_advance _ _ _ _) (by omega) (by decide) rfl (Nat.le_of_ble_eq_true rfl) (fun r21 _ => ?_)
                refine rhF.aload_n (pc := 185) dX4_readUnit_185 0 rfl ?_
                refine rhF.iload_n (pc := 186) dX4_readUnit_186 1 rfl ?_
                refine rhF.iconst (pc := 187) (v := 1) dX4_readUnit_187 (by decide) ?_
                refine rhF.iadd (pc := 188) dX4_readUnit_188 ?_
                refine rhF.callV (pc := 189) (ci := 4) (embc := rhe1U _) [rhI _] dX4_readUnit_189 ml_X4_196 mv_X4_readEither ⟨_, rfl, rfl⟩ h1 (hg_X4_readEither _ _ _ _) (by omega) (by decide) rfl (Nat.le_of_ble_eq_true rfl) (fun r22 _ => ?_)
                refine rhF.aload_n (pc := 192) dX4_readUnit_192 0 rfl ?_
                refine rhF.bipush (pc := 193) (v := 41) dX4_readUnit_193 (by decide) ?_
                refine rhF.callV (pc := 195) (ci := 4) (embc := rhe1U _) [rhI _] dX4_readUnit_195 ml_X4_158 mv_X4_takeSign ⟨_, rfl, rfl⟩ h1 (c_X4_takeSign _ _ _ _ _) (by omega) (by decide) rfl (Nat.le_of_ble_eq_true rfl) (fun r23 _ => ?_)
                refine rhF.goto (pc := 198) 205 dX4_readUnit_198 (by decide) ?_
                exact rhF.vret (pc := 205) dX4_readUnit_205 rfl rfl
              · refine rhF.sub [0] rfl ?_
                exact (b_X4_readUnit_201 hg_X4_readBoth hg_X4_readEither hg_X4_readNot hg_X4_readOne hg_X4_readSum hg_X4_readTerm hg_X4_readUnit) _ _
            · refine rhF.sub [0] rfl ?_
              exact (b_X4_readUnit_201 hg_X4_readBoth hg_X4_readEither hg_X4_readNot hg_X4_readOne hg_X4_readSum hg_X4_readTerm hg_X4_readUnit) _ _
          · refine rhF.aload_n (pc := 122) dX4_readUnit_122 0 rfl ?_
            refine rhF.get (pc := 123) (rhR _) dX4_readUnit_123 fl_X4_91 h1 rfl ?_
            refine rhF.aload_n (pc := 126) dX4_readUnit_126 0 rfl ?_
            refine rhF.get (pc := 127) (rhR _) dX4_readUnit_127 fl_X4_18 h1 rfl ?_
            refine rhF.get (pc := 130) (rhI _) dX4_readUnit_130 fl_X4_49 h5 rfl ?_
            refine rhF.iconst (pc := 133) (v := 0) dX4_readUnit_133 (by decide) ?_
            refine rhF.callV (pc := 134) (ci := 1) (embc := rhe1U _) [rhI _, rhI _] dX4_readUnit_134 ml_X4_225 mv_X1_addUnit ⟨_, rfl, rfl⟩ h3 (c_X1_addUnit _ _ _ _ _ _) (by omega) (by decide) rfl (Nat.le_of_ble_eq_true rfl) (fun r26 _ => ?_)
            refine rhF.aload_n (pc := 137) dX4_readUnit_137 0 rfl ?_
            refine rhF.get (pc := 138) (rhR _) dX4_readUnit_138 fl_X4_18 h1 rfl ?_
            refine rhF.ck (fun h27 => ?_)
            refine rhF.callV (pc := 141) (ci := 8) (embc := rhe1U _) [] dX4_readUnit_141 ml_X4_126 mv_X8_advance ⟨_, rfl, rfl⟩ h27 (c_X8_advance _ _ _ _) (by omega) (by decide) rfl (Nat.le_of_ble_eq_true rfl) (fun r28 _ => ?_)
            refine rhF.goto (pc := 144) 205 dX4_readUnit_144 (by decide) ?_
            exact rhF.vret (pc := 205) dX4_readUnit_205 rfl rfl
    · refine rhF.sub [0] rfl ?_
      exact (b_X4_readUnit_19 hg_X4_readBoth hg_X4_readEither hg_X4_readNot hg_X4_readOne hg_X4_readSum hg_X4_readTerm hg_X4_readUnit) _ _
  · refine rhF.sub [0] rfl ?_
    exact (b_X4_readUnit_19 hg_X4_readBoth hg_X4_readEither hg_X4_readNot hg_X4_readOne hg_X4_readSum hg_X4_readTerm hg_X4_readUnit) _ _
theorem C_X4_readBoth (E : rhE) : ∀ dp : Nat, (∀ (Γ : rhG) (M : rhM) (v0 : Nat) (v1 : Int32) (a : rhM), ((F_X4_readBoth dp).1) Γ M v0 v1 = some a → rhC E (8 + dp) yX4_readBoth cX4_readBoth 3 none [rhR v0, rhI v1] Γ M ((rhe1U Γ) a)) ∧ (∀ (Γ : rhG) (M : rhM) (v0 : Nat) (v1 : Int32) (a : rhM), ((F_X4_readBoth dp).2.1) Γ M v0 v1 = some a → rhC E (8 + dp) yX4_readEither cX4_readEither 3 none [rhR v0, rhI v1] Γ M ((rhe1U Γ) a)) ∧ (∀ (Γ : rhG) (M : rhM) (v0 : Nat) (v1 : Int32) (a : rhM), ((F_X4_readBoth dp).2.2.1) Γ M v0 v1 = some a → rhC E (8 + dp) yX4_readNot cX4_readNot 2 none [rhR v0, rhI v1] Γ M ((rhe1U Γ) a)) ∧ (∀ (Γ : rhG) (M : rhM) (v0 : Nat) (v1 : Int32) (a : rhM), ((F_X4_readBoth dp).2.2.2.1) Γ M v0 v1 = some a → rhC E (8 + dp) yX4_readOne cX4_readOne 3 none [rhR v0, rhI v1] Γ M ((rhe1U Γ) a)) ∧ (∀ (Γ : rhG) (M : rhM) (v0 : Nat) (v1 : Int32) (a : rhM), ((F_X4_readBoth dp).2.2.2.2.1) Γ M v0 v1 = some a → rhC E (8 + dp) yX4_readSum cX4_readSum 4 none [rhR v0, rhI v1] Γ M ((rhe1U Γ) a)) ∧ (∀ (Γ : rhG) (M : rhM) (v0 : Nat) (v1 : Int32) (a : rhM), ((F_X4_readBoth dp).2.2.2.2.2.1) Γ M v0 v1 = some a → rhC E (8 + dp) yX4_readTerm cX4_readTerm 4 none [rhR v0, rhI v1] Γ M ((rhe1U Γ) a)) ∧ (∀ (Γ : rhG) (M : rhM) (v0 : Nat) (v1 : Int32) (a : rhM), ((F_X4_readBoth dp).2.2.2.2.2.2) Γ M v0 v1 = some a → rhC E (8 + dp) yX4_readUnit cX4_readUnit 2 none [rhR v0, rhI v1] Γ M ((rhe1U Γ) a)) := by
  intro dp
  induction dp with
  | zero =>
    refine ⟨?_, ?_, ?_, ?_, ?_, ?_, ?_⟩
    · exact (fun Γ M v0 v1 a h => by
      have h2 : (none : Option (rhM)) = some a := h
      cases h2)
    · exact (fun Γ M v0 v1 a h => by
      have h2 : (none : Option (rhM)) = some a := h
      cases h2)
    · exact (fun Γ M v0 v1 a h => by
      have h2 : (none : Option (rhM)) = some a := h
      cases h2)
    · exact (fun Γ M v0 v1 a h => by
      have h2 : (none : Option (rhM)) = some a := h
      cases h2)
    · exact (fun Γ M v0 v1 a h => by
      have h2 : (none : Option (rhM)) = some a := h
      cases h2)
    · exact (fun Γ M v0 v1 a h => by
      have h2 : (none : Option (rhM)) = some a := h
      cases h2)
    · exact (fun Γ M v0 v1 a h => by
      have h2 : (none : Option (rhM)) = some a := h
      cases h2)
  | succ dp ih =>
    exact ⟨fun Γ M v0 v1 => rhF.met (by decide +kernel) (Nat.le_of_ble_eq_true rfl) (b_X4_readBoth (dp := dp) (ih.1) (ih.2.1) (ih.2.2.1) (ih.2.2.2.1) (ih.2.2.2.2.1) (ih.2.2.2.2.2.1) (ih.2.2.2.2.2.2) M v0 v1), fun Γ M v0 v1 => rhF.met (by decide +kernel) (Nat.le_of_ble_eq_true rfl) (b_X4_readEither (dp := dp) (ih.1) (ih.2.1) (ih.2.2.1) (ih.2.2.2.1) (ih.2.2.2.2.1) (ih.2.2.2.2.2.1) (ih.2.2.2.2.2.2) M v0 v1), fun Γ M v0 v1 => rhF.met (by decide +kernel) (Nat.le_of_ble_eq_true rfl) (b_X4_readNot (dp := dp) (ih.1) (ih.2.1) (ih.2.2.1) (ih.2.2.2.1) (ih.2.2.2.2.1) (ih.2.2.2.2.2.1) (ih.2.2.2.2.2.2) M v0 v1), fun Γ M v0 v1 => rhF.met (by decide +kernel) (Nat.le_of_ble_eq_true rfl) (b_X4_readOne (dp := dp) (ih.1) (ih.2.1) (ih.2.2.1) (ih.2.2.2.1) (ih.2.2.2.2.1) (ih.2.2.2.2.2.1) (ih.2.2.2.2.2.2) M v0 v1), fun Γ M v0 v1 => rhF.met (by decide +kernel) (Nat.le_of_ble_eq_true rfl) (b_X4_readSum (dp := dp) (ih.1) (ih.2.1) (ih.2.2.1) (ih.2.2.2.1) (ih.2.2.2.2.1) (ih.2.2.2.2.2.1) (ih.2.2.2.2.2.2) M v0 v1), fun Γ M v0 v1 => rhF.met (by decide +kernel) (Nat.le_of_ble_eq_true rfl) (b_X4_readTerm (dp := dp) (ih.1) (ih.2.1) (ih.2.2.1) (ih.2.2.2.1) (ih.2.2.2.2.1) (ih.2.2.2.2.2.1) (ih.2.2.2.2.2.2) M v0 v1), fun Γ M v0 v1 => rhF.met (by decide +kernel) (Nat.le_of_ble_eq_true rfl) (b_X4_readUnit (dp := dp) (ih.1) (ih.2.1) (ih.2.2.1) (ih.2.2.2.1) (ih.2.2.2.2.1) (ih.2.2.2.2.2.1) (ih.2.2.2.2.2.2) M v0 v1)⟩
def h_X4_readBoth (dp : Nat) := (F_X4_readBoth dp).1
theorem c_X4_readBoth (E : rhE) (dp : Nat) (Γ : rhG) (M : rhM) (v0 : Nat) (v1 : Int32) : ∀ a, h_X4_readBoth dp Γ M v0 v1 = some a → rhC E (8 + dp) yX4_readBoth cX4_readBoth 3 none [rhR v0, rhI v1] Γ M ((rhe1U Γ) a) := (C_X4_readBoth E dp).1 Γ M v0 v1
def h_X4_readEither (dp : Nat) := (F_X4_readBoth dp).2.1
theorem c_X4_readEither (E : rhE) (dp : Nat) (Γ : rhG) (M : rhM) (v0 : Nat) (v1 : Int32) : ∀ a, h_X4_readEither dp Γ M v0 v1 = some a → rhC E (8 + dp) yX4_readEither cX4_readEither 3 none [rhR v0, rhI v1] Γ M ((rhe1U Γ) a) := (C_X4_readBoth E dp).2.1 Γ M v0 v1
def h_X4_readNot (dp : Nat) := (F_X4_readBoth dp).2.2.1
theorem c_X4_readNot (E : rhE) (dp : Nat) (Γ : rhG) (M : rhM) (v0 : Nat) (v1 : Int32) : ∀ a, h_X4_readNot dp Γ M v0 v1 = some a → rhC E (8 + dp) yX4_readNot cX4_readNot 2 none [rhR v0, rhI v1] Γ M ((rhe1U Γ) a) := (C_X4_readBoth E dp).2.2.1 Γ M v0 v1
def h_X4_readOne (dp : Nat) := (F_X4_readBoth dp).2.2.2.1
theorem c_X4_readOne (E : rhE) (dp : Nat) (Γ : rhG) (M : rhM) (v0 : Nat) (v1 : Int32) : ∀ a, h_X4_readOne dp Γ M v0 v1 = some a → rhC E (8 + dp) yX4_readOne cX4_readOne 3 none [rhR v0, rhI v1] Γ M ((rhe1U Γ) a) := (C_X4_readBoth E dp).2.2.2.1 Γ M v0 v1
def h_X4_readSum (dp : Nat) := (F_X4_readBoth dp).2.2.2.2.1
theorem c_X4_readSum (E : rhE) (dp : Nat) (Γ : rhG) (M : rhM) (v0 : Nat) (v1 : Int32) : ∀ a, h_X4_readSum dp Γ M v0 v1 = some a → rhC E (8 + dp) yX4_readSum cX4_readSum 4 none [rhR v0, rhI v1] Γ M ((rhe1U Γ) a) := (C_X4_readBoth E dp).2.2.2.2.1 Γ M v0 v1
def h_X4_readTerm (dp : Nat) := (F_X4_readBoth dp).2.2.2.2.2.1
theorem c_X4_readTerm (E : rhE) (dp : Nat) (Γ : rhG) (M : rhM) (v0 : Nat) (v1 : Int32) : ∀ a, h_X4_readTerm dp Γ M v0 v1 = some a → rhC E (8 + dp) yX4_readTerm cX4_readTerm 4 none [rhR v0, rhI v1] Γ M ((rhe1U Γ) a) := (C_X4_readBoth E dp).2.2.2.2.2.1 Γ M v0 v1
def h_X4_readUnit (dp : Nat) := (F_X4_readBoth dp).2.2.2.2.2.2
theorem c_X4_readUnit (E : rhE) (dp : Nat) (Γ : rhG) (M : rhM) (v0 : Nat) (v1 : Int32) : ∀ a, h_X4_readUnit dp Γ M v0 v1 = some a → rhC E (8 + dp) yX4_readUnit cX4_readUnit 2 none [rhR v0, rhI v1] Γ M ((rhe1U Γ) a) := (C_X4_readBoth E dp).2.2.2.2.2.2 Γ M v0 v1
def f_X4_readDraws (Γ : rhG) (M : rhM) (v0 : Nat) : Option (rhM) :=
  rhck (Γ.2.2.1 v0 = 5) <|
  (f_X4_advanceUnless Γ M v0 (M.1 v0 8)).bind fun r2 =>
  let M3 := rhsi r2 v0 8 1
  rhck (Γ.2.2.1 (r2.2.2 v0 2) = 9) <|
  (f_X4_takeNumber Γ M3 v0 (1 : Int32) (999 : Int32) (M3.1 (r2.2.2 v0 2) 5)).bind fun r5 =>
  rhck (Γ.2.2.1 (r2.2.2 v0 10) = 10) <|
  let M7 := rhsi r5.2 (r2.2.2 v0 10) 3 r5.1
  (f_X4_takeSign Γ M7 v0 (59 : Int32)).bind fun r8 =>
  some r8
set_option maxHeartbeats 4000000 in
set_option maxRecDepth 100000 in
theorem b_X4_readDraws {E : rhE} {Γ : rhG} : ∀ (M : rhM) (v0 : Nat), rhF E 8 1 yX4_readDraws cX4_readDraws none Γ (rhe1U Γ) (f_X4_readDraws Γ M v0) 0 [(0, rhR v0)] [] Γ M := by
  intro M v0
  rw [f_X4_readDraws]
  refine rhF.aload_n (pc := 0) dX4_readDraws_0 0 rfl ?_
  refine rhF.aload_n (pc := 1) dX4_readDraws_1 0 rfl ?_
  refine rhF.ck (fun h1 => ?_)
  refine rhF.get (pc := 2) (rhI _) dX4_readDraws_2 fl_X4_105 h1 rfl ?_
  refine rhF.callV (pc := 5) (ci := 4) (embc := rhe1U _) [rhI _] dX4_readDraws_5 ml_X4_146 mv_X4_advanceUnless ⟨_, rfl, rfl⟩ h1 (c_X4_advanceUnless _ _ _ _ _) (by decide) (by decide) rfl (Nat.le_of_ble_eq_true rfl) (fun r2 _ => ?_)
  refine rhF.aload_n (pc := 8) dX4_readDraws_8 0 rfl ?_
  refine rhF.iconst (pc := 9) (v := 1) dX4_readDraws_9 (by decide) ?_
  refine rhF.puti (pc := 10) dX4_readDraws_10 fl_X4_105 h1 (fun q hq => by cases hq; exact Or.inl rfl) ⟨rfl, rfl⟩ (fun _ => rfl) ?_
  refine rhF.aload_n (pc := 13) dX4_readDraws_13 0 rfl ?_
  refine rhF.get (pc := 14) (rhR _) dX4_readDraws_14 fl_X4_73 h1 rfl ?_
  refine rhF.aload_n (pc := 17) dX4_readDraws_17 0 rfl ?_
  refine rhF.iconst (pc := 18) (v := 1) dX4_readDraws_18 (by decide) ?_
  refine rhF.sipush (pc := 19) (v := 999) dX4_readDraws_19 (by decide) ?_
  refine rhF.aload_n (pc := 22) dX4_readDraws_22 0 rfl ?_
  refine rhF.get (pc := 23) (rhR _) dX4_readDraws_23 fl_X4_18 h1 rfl ?_
  refine rhF.ck (fun h4 => ?_)
  refine rhF.get (pc := 26) (rhI _) dX4_readDraws_26 fl_X4_121 h4 rfl ?_
  refine rhF.callV (pc := 29) (ci := 4) (embc := rhe1I _) [rhI _, rhI _, rhI _] dX4_readDraws_29 ml_X4_135 mv_X4_takeNumber ⟨_, rfl, rfl⟩ h1 (c_X4_takeNumber _ _ _ _ _ _ _) (by decide) (by decide) rfl (Nat.le_of_ble_eq_true rfl) (fun r5 _ => ?_)
  refine rhF.ck (fun h6 => ?_)
  refine rhF.puti (pc := 32) dX4_readDraws_32 fl_X4_193 h6 (fun q hq => by cases hq; exact Or.inl rfl) ⟨rfl, rfl⟩ (fun _ => rfl) ?_
  refine rhF.aload_n (pc := 35) dX4_readDraws_35 0 rfl ?_
  refine rhF.bipush (pc := 36) (v := 59) dX4_readDraws_36 (by decide) ?_
  refine rhF.callV (pc := 38) (ci := 4) (embc := rhe1U _) [rhI _] dX4_readDraws_38 ml_X4_158 mv_X4_takeSign ⟨_, rfl, rfl⟩ h1 (c_X4_takeSign _ _ _ _ _) (by decide) (by decide) rfl (Nat.le_of_ble_eq_true rfl) (fun r8 _ => ?_)
  exact rhF.vret (pc := 41) dX4_readDraws_41 rfl rfl
theorem c_X4_readDraws (E : rhE) (Γ : rhG) (M : rhM) (v0 : Nat) : ∀ a, f_X4_readDraws Γ M v0 = some a → rhC E 8 yX4_readDraws cX4_readDraws 1 none [rhR v0] Γ M ((rhe1U Γ) a) := rhF.met (by decide +kernel) (Nat.le_of_ble_eq_true rfl) (b_X4_readDraws M v0)
def f_X4_takeNewName_54 (Γ : rhG) (M : rhM) (v0 : Nat) (v3 : Int64) : Option (Int64 × rhM) :=
  rhck (Γ.2.2.1 v0 = 5) <|
  rhck (Γ.2.2.1 (M.2.2 v0 2) = 9) <|
  (f_X8_advance Γ M (M.2.2 v0 2)).bind fun r10 =>
  some ((v3, r10))
def f_X4_takeNewName_18 (Γ : rhG) (M : rhM) (v0 : Nat) : Option (Int64 × rhM) :=
  rhck (Γ.2.2.1 v0 = 5) <|
  (f_X4_refuse Γ M v0).bind fun r13 =>
  some (((0 : Int64), r13))
def f_X4_takeNewName (Γ : rhG) (M : rhM) (v0 : Nat) (v1 : Nat) (v2 : Int32) : Option (Int64 × rhM) :=
  rhck (Γ.2.2.1 v0 = 5) <|
  if (M.1 v0 0) = 0 then
    (rhck (Γ.2.2.1 (M.2.2 v0 2) = 9) <|
    if (M.1 (M.2.2 v0 2) 4) = 2 then
      (let x5 := M.2.1 (M.2.2 v0 2) 6
      (f_X4_numberOf Γ M x5 v1 v2).bind fun r6 =>
      if r6 = ((-1)) then
        (f_X4_takeNewName_54 Γ M v0 x5)
      else
        (f_X4_blame Γ M v0 (3 : Int32) (M.1 (M.2.2 v0 2) 5)).bind fun r11 =>
        f_X4_takeNewName_54 Γ r11 v0 x5)
    else
      f_X4_takeNewName_18 Γ M v0)
  else
    f_X4_takeNewName_18 Γ M v0
set_option maxHeartbeats 4000000 in
set_option maxRecDepth 100000 in
theorem b_X4_takeNewName_54 {E : rhE} {Γ : rhG} : ∀ (M : rhM) (v0 : Nat) (v3 : Int64), rhF E 7 5 yX4_takeNewName cX4_takeNewName (some .long) Γ (rhe1J Γ) (f_X4_takeNewName_54 Γ M v0 v3) 54 [(0, rhR v0), (3, rhJ v3)] [] Γ M := by
  intro M v0 v3
  rw [f_X4_takeNewName_54]
  refine rhF.aload_n (pc := 54) dX4_takeNewName_54 0 rfl ?_
  refine rhF.ck (fun h8 => ?_)
  refine rhF.get (pc := 55) (rhR _) dX4_takeNewName_55 fl_X4_18 h8 rfl ?_
  refine rhF.ck (fun h9 => ?_)
  refine rhF.callV (pc := 58) (ci := 8) (embc := rhe1U _) [] dX4_takeNewName_58 ml_X4_126 mv_X8_advance ⟨_, rfl, rfl⟩ h9 (c_X8_advance _ _ _ _) (by decide) (by decide) rfl (Nat.le_of_ble_eq_true rfl) (fun r10 _ => ?_)
  refine rhF.lload_n (pc := 61) dX4_takeNewName_61 1 rfl ?_
  exact rhF.lret (pc := 62) dX4_takeNewName_62 rfl rfl
set_option maxHeartbeats 4000000 in
set_option maxRecDepth 100000 in
theorem b_X4_takeNewName_18 {E : rhE} {Γ : rhG} : ∀ (M : rhM) (v0 : Nat), rhF E 7 5 yX4_takeNewName cX4_takeNewName (some .long) Γ (rhe1J Γ) (f_X4_takeNewName_18 Γ M v0) 18 [(0, rhR v0)] [] Γ M := by
  intro M v0
  rw [f_X4_takeNewName_18]
  refine rhF.aload_n (pc := 18) dX4_takeNewName_18 0 rfl ?_
  refine rhF.ck (fun h12 => ?_)
  refine rhF.callV (pc := 19) (ci := 4) (embc := rhe1U _) [] dX4_takeNewName_19 ml_X4_70 mv_X4_refuse ⟨_, rfl, rfl⟩ h12 (c_X4_refuse _ _ _ _) (by decide) (by decide) rfl (Nat.le_of_ble_eq_true rfl) (fun r13 _ => ?_)
  refine rhF.lconst (pc := 22) (v := 0) dX4_takeNewName_22 (by decide) ?_
  exact rhF.lret (pc := 23) dX4_takeNewName_23 rfl rfl
set_option maxHeartbeats 4000000 in
set_option maxRecDepth 100000 in
theorem b_X4_takeNewName {E : rhE} {Γ : rhG} : ∀ (M : rhM) (v0 : Nat) (v1 : Nat) (v2 : Int32), rhF E 7 5 yX4_takeNewName cX4_takeNewName (some .long) Γ (rhe1J Γ) (f_X4_takeNewName Γ M v0 v1 v2) 0 [(0, rhR v0), (1, rhR v1), (2, rhI v2)] [] Γ M := by
  intro M v0 v1 v2
  rw [f_X4_takeNewName]
  refine rhF.aload_n (pc := 0) dX4_takeNewName_0 0 rfl ?_
  refine rhF.ck (fun h1 => ?_)
  refine rhF.get (pc := 1) (rhI _) dX4_takeNewName_1 fl_X4_43 h1 rfl ?_
  refine rhF.if_ne (pc := 4) 18 dX4_takeNewName_4 (by decide) (fun h2 => ?_) (fun h2 => ?_)
  · refine rhF.aload_n (pc := 7) dX4_takeNewName_7 0 rfl ?_
    refine rhF.get (pc := 8) (rhR _) dX4_takeNewName_8 fl_X4_18 h1 rfl ?_
    refine rhF.ck (fun h3 => ?_)
    refine rhF.get (pc := 11) (rhI _) dX4_takeNewName_11 fl_X4_46 h3 rfl ?_
    refine rhF.iconst (pc := 14) (v := 2) dX4_takeNewName_14 (by decide) ?_
    refine rhF.icmp_eq (pc := 15) 24 dX4_takeNewName_15 (by decide) (fun h4 => ?_) (fun h4 => ?_)
    · refine rhF.aload_n (pc := 24) dX4_takeNewName_24 0 rfl ?_
      refine rhF.get (pc := 25) (rhR _) dX4_takeNewName_25 fl_X4_18 h1 rfl ?_
      refine rhF.get (pc := 28) (rhJ _) dX4_takeNewName_28 fl_X4_139 h3 rfl ?_
      refine rhF.lstore_n (pc := 31) (L' := [(3, rhJ _), (0, rhR _), (1, rhR _), (2, rhI _)]) dX4_takeNewName_31 (by decide) rfl ?_
      refine rhF.lload_n (pc := 32) dX4_takeNewName_32 0 rfl ?_
      refine rhF.aload_n (pc := 33) dX4_takeNewName_33 2 rfl ?_
      refine rhF.iload_n (pc := 34) dX4_takeNewName_34 3 rfl ?_
      refine rhF.callS (pc := 35) (embc := rhe0I _ _) [rhJ _, rhR _, rhI _] dX4_takeNewName_35 ml_X4_142 ms_X4_numberOf (c_X4_numberOf _ _ _ _ _ _) (by decide) (by decide) rfl (Nat.le_of_ble_eq_true rfl) (fun r6 _ => ?_)
      refine rhF.iconst (pc := 38) (v := (-1)) dX4_takeNewName_38 (by decide) ?_
      refine rhF.icmp_eq (pc := 39) 54 dX4_takeNewName_39 (by decide) (fun h7 => ?_) (fun h7 => ?_)
      · refine rhF.sub [1, 0] rfl ?_
        exact (b_X4_takeNewName_54) _ _ _
      · refine rhF.aload_n (pc := 42) dX4_takeNewName_42 1 rfl ?_
        refine rhF.iconst (pc := 43) (v := 3) dX4_takeNewName_43 (by decide) ?_
        refine rhF.aload_n (pc := 44) dX4_takeNewName_44 1 rfl ?_
        refine rhF.get (pc := 45) (rhR _) dX4_takeNewName_45 fl_X4_18 h1 rfl ?_
        refine rhF.get (pc := 48) (rhI _) dX4_takeNewName_48 fl_X4_121 h3 rfl ?_
        refine rhF.callV (pc := 51) (ci := 4) (embc := rhe1U _) [rhI _, rhI _] dX4_takeNewName_51 ml_X4_122 mv_X4_blame ⟨_, rfl, rfl⟩ h1 (c_X4_blame _ _ _ _ _ _) (by decide) (by decide) rfl (Nat.le_of_ble_eq_true rfl) (fun r11 _ => ?_)
        refine rhF.sub [1, 0] rfl ?_
        exact (b_X4_takeNewName_54) _ _ _
    · refine rhF.sub [0] rfl ?_
      exact (b_X4_takeNewName_18) _ _
  · refine rhF.sub [0] rfl ?_
    exact (b_X4_takeNewName_18) _ _
theorem c_X4_takeNewName (E : rhE) (Γ : rhG) (M : rhM) (v0 : Nat) (v1 : Nat) (v2 : Int32) : ∀ a, f_X4_takeNewName Γ M v0 v1 v2 = some a → rhC E 7 yX4_takeNewName cX4_takeNewName 5 (some .long) [rhR v0, rhR v1, rhI v2] Γ M ((rhe1J Γ) a) := rhF.met (by decide +kernel) (Nat.le_of_ble_eq_true rfl) (b_X4_takeNewName M v0 v1 v2)
def f_X9_addHouse_20 (k68 : rhM → Nat → Option (rhM)) (Γ : rhG) : Nat → rhM → Nat → Int32 → Int32 → Int32 → Int32 → Option (rhM)
  | 0, _, _, _, _, _, _ => none
  | n + 1, M, v0, v1, v2, v3, v4 =>
    if v4 < v3 then
      (rhck (Γ.2.2.1 v0 = 10) <|
      rhck (Γ.2.2.1 (M.2.2 v0 7) = 15) <|
      rhck (0 ≤ (v4).toInt ∧ (v4).toInt < (Γ.2.2.2 (M.2.2 v0 7) : Nat)) <|
      rhck (0 ≤ (v4 ||| v3).toInt ∧ (v4 ||| v3).toInt < (Γ.2.2.2 (M.2.2 v0 7) : Nat)) <|
      let M9 := rhsi M (M.2.2 v0 7) (v4 ||| v3 : Int32).toNatClampNeg ((M.1 (M.2.2 v0 7) v4.toNatClampNeg) + v1)
      rhck (Γ.2.2.1 (M.2.2 v0 8) = 15) <|
      rhck (0 ≤ (v4).toInt ∧ (v4).toInt < (Γ.2.2.2 (M.2.2 v0 8) : Nat)) <|
      rhck (0 ≤ (v4 ||| v3).toInt ∧ (v4 ||| v3).toInt < (Γ.2.2.2 (M.2.2 v0 8) : Nat)) <|
      let M13 := rhsi M9 (M.2.2 v0 8) (v4 ||| v3 : Int32).toNatClampNeg ((M9.1 (M.2.2 v0 8) v4.toNatClampNeg) + v2)
      let x14 : Int32 := v4 + 1
      f_X9_addHouse_20 k68 Γ n M13 v0 v1 v2 v3 x14)
    else
      k68 M v0
def f_X9_addHouse_68 (Γ : rhG) (M : rhM) (v0 : Nat) : Option (rhM) :=
  rhck (Γ.2.2.1 v0 = 10) <|
  let M16 := rhsi M v0 1 ((M.1 v0 1) + 1)
  some M16
def f_X9_addHouse (Γ : rhG) (M : rhM) (v0 : Nat) (v1 : Int32) (v2 : Int32) : Option (rhM) :=
  rhck (Γ.2.2.1 v0 = 10) <|
  if (M.1 v0 1) < 8 then
    (let x3 := 1 <<< ((M.1 v0 1) &&& 31)
    f_X9_addHouse_20 (f_X9_addHouse_68 Γ) Γ rhFU M v0 v1 v2 x3 0)
  else
    some M
set_option maxHeartbeats 4000000 in
set_option maxRecDepth 100000 in
theorem b_X9_addHouse_20 {E : rhE} {Γ : rhG} {k68 : rhM → Nat → Option (rhM)} (hk68 : ∀ (M : rhM) (v0 : Nat), rhF E 1 5 yX9_addHouse cX9_addHouse none Γ (rhe1U Γ) (k68 M v0) 68 [(0, rhR v0)] [] Γ M) : ∀ (n : Nat) (M : rhM) (v0 : Nat) (v1 : Int32) (v2 : Int32) (v3 : Int32) (v4 : Int32), rhF E 1 5 yX9_addHouse cX9_addHouse none Γ (rhe1U Γ) (f_X9_addHouse_20 k68 Γ n M v0 v1 v2 v3 v4) 20 [(0, rhR v0), (1, rhI v1), (2, rhI v2), (3, rhI v3), (4, rhI v4)] [] Γ M := by
  intro n
  induction n with
  | zero => intro M v0 v1 v2 v3 v4; rw [f_X9_addHouse_20]; exact rhF.nope
  | succ n ih =>
    intro M v0 v1 v2 v3 v4
    rw [f_X9_addHouse_20]
    refine rhF.iload (pc := 20) dX9_addHouse_20 4 rfl ?_
    refine rhF.iload_n (pc := 22) dX9_addHouse_22 3 rfl ?_
    refine rhF.icmp_ge (pc := 23) 68 dX9_addHouse_23 (by decide) (fun h4 => ?_) (fun h4 => ?_)
    · refine rhF.aload_n (pc := 26) dX9_addHouse_26 0 rfl ?_
      refine rhF.ck (fun h5 => ?_)
      refine rhF.get (pc := 27) (rhR _) dX9_addHouse_27 fl_X9_15 h5 rfl ?_
      refine rhF.iload (pc := 30) dX9_addHouse_30 4 rfl ?_
      refine rhF.iload_n (pc := 32) dX9_addHouse_32 3 rfl ?_
      refine rhF.ior (pc := 33) dX9_addHouse_33 ?_
      refine rhF.aload_n (pc := 34) dX9_addHouse_34 0 rfl ?_
      refine rhF.get (pc := 35) (rhR _) dX9_addHouse_35 fl_X9_15 h5 rfl ?_
      refine rhF.iload (pc := 38) dX9_addHouse_38 4 rfl ?_
      refine rhF.ck (fun h6 => ?_)
      refine rhF.ck (fun h7 => ?_)
      refine rhF.iald (pc := 40) dX9_addHouse_40 h6 h7 ?_
      refine rhF.iload_n (pc := 41) dX9_addHouse_41 1 rfl ?_
      refine rhF.iadd (pc := 42) dX9_addHouse_42 ?_
      refine rhF.ck (fun h8 => ?_)
      refine rhF.iast (pc := 43) dX9_addHouse_43 h6 h8 ?_
      refine rhF.aload_n (pc := 44) dX9_addHouse_44 0 rfl ?_
      refine rhF.get (pc := 45) (rhR _) dX9_addHouse_45 fl_X9_18 h5 rfl ?_
      refine rhF.iload (pc := 48) dX9_addHouse_48 4 rfl ?_
      refine rhF.iload_n (pc := 50) dX9_addHouse_50 3 rfl ?_
      refine rhF.ior (pc := 51) dX9_addHouse_51 ?_
      refine rhF.aload_n (pc := 52) dX9_addHouse_52 0 rfl ?_
      refine rhF.get (pc := 53) (rhR _) dX9_addHouse_53 fl_X9_18 h5 rfl ?_
      refine rhF.iload (pc := 56) dX9_addHouse_56 4 rfl ?_
      refine rhF.ck (fun h10 => ?_)
      refine rhF.ck (fun h11 => ?_)
      refine rhF.iald (pc := 58) dX9_addHouse_58 h10 h11 ?_
      refine rhF.iload_n (pc := 59) dX9_addHouse_59 2 rfl ?_
      refine rhF.iadd (pc := 60) dX9_addHouse_60 ?_
      refine rhF.ck (fun h12 => ?_)
      refine rhF.iast (pc := 61) dX9_addHouse_61 h10 h12 ?_
      refine rhF.iinc (pc := 62) (L' := [(4, rhI _), (0, rhR _), (1, rhI _), (2, rhI _), (3, rhI _)]) dX9_addHouse_62 4 rfl rfl (by decide) rfl ?_
      refine rhF.goto (pc := 65) 20 dX9_addHouse_65 (by decide) ?_
      refine rhF.sub [1, 2, 3, 4, 0] rfl ?_
      exact ih _ _ _ _ _ _
    · refine rhF.sub [0] rfl ?_
      exact hk68 _ _
set_option maxHeartbeats 4000000 in
set_option maxRecDepth 100000 in
theorem b_X9_addHouse_68 {E : rhE} {Γ : rhG} : ∀ (M : rhM) (v0 : Nat), rhF E 1 5 yX9_addHouse cX9_addHouse none Γ (rhe1U Γ) (f_X9_addHouse_68 Γ M v0) 68 [(0, rhR v0)] [] Γ M := by
  intro M v0
  rw [f_X9_addHouse_68]
  refine rhF.aload_n (pc := 68) dX9_addHouse_68 0 rfl ?_
  refine rhF.dupr (pc := 69) dX9_addHouse_69 ?_
  refine rhF.ck (fun h15 => ?_)
  refine rhF.get (pc := 70) (rhI _) dX9_addHouse_70 fl_X9_42 h15 rfl ?_
  refine rhF.iconst (pc := 73) (v := 1) dX9_addHouse_73 (by decide) ?_
  refine rhF.iadd (pc := 74) dX9_addHouse_74 ?_
  refine rhF.puti (pc := 75) dX9_addHouse_75 fl_X9_42 h15 (fun q hq => by cases hq; exact Or.inl rfl) ⟨rfl, rfl⟩ (fun _ => rfl) ?_
  exact rhF.vret (pc := 78) dX9_addHouse_78 rfl rfl
set_option maxHeartbeats 4000000 in
set_option maxRecDepth 100000 in
theorem b_X9_addHouse {E : rhE} {Γ : rhG} : ∀ (M : rhM) (v0 : Nat) (v1 : Int32) (v2 : Int32), rhF E 1 5 yX9_addHouse cX9_addHouse none Γ (rhe1U Γ) (f_X9_addHouse Γ M v0 v1 v2) 0 [(0, rhR v0), (1, rhI v1), (2, rhI v2)] [] Γ M := by
  intro M v0 v1 v2
  rw [f_X9_addHouse]
  refine rhF.aload_n (pc := 0) dX9_addHouse_0 0 rfl ?_
  refine rhF.ck (fun h1 => ?_)
  refine rhF.get (pc := 1) (rhI _) dX9_addHouse_1 fl_X9_42 h1 rfl ?_
  refine rhF.bipush (pc := 4) (v := 8) dX9_addHouse_4 (by decide) ?_
  refine rhF.icmp_lt (pc := 6) 10 dX9_addHouse_6 (by decide) (fun h2 => ?_) (fun h2 => ?_)
  · refine rhF.iconst (pc := 10) (v := 1) dX9_addHouse_10 (by decide) ?_
    refine rhF.aload_n (pc := 11) dX9_addHouse_11 0 rfl ?_
    refine rhF.get (pc := 12) (rhI _) dX9_addHouse_12 fl_X9_42 h1 rfl ?_
    refine rhF.ishl (pc := 15) dX9_addHouse_15 ?_
    refine rhF.istore_n (pc := 16) (L' := [(3, rhI _), (0, rhR _), (1, rhI _), (2, rhI _)]) dX9_addHouse_16 (by decide) rfl ?_
    refine rhF.iconst (pc := 17) (v := 0) dX9_addHouse_17 (by decide) ?_
    refine rhF.istore (pc := 18) (L' := [(4, rhI _), (3, rhI _), (0, rhR _), (1, rhI _), (2, rhI _)]) dX9_addHouse_18 (by decide) rfl ?_
    refine rhF.sub [2, 3, 4, 1, 0] rfl ?_
    exact (b_X9_addHouse_20 (b_X9_addHouse_68) rhFU) _ _ _ _ _ _
  · exact rhF.vret (pc := 9) dX9_addHouse_9 rfl rfl
theorem c_X9_addHouse (E : rhE) (Γ : rhG) (M : rhM) (v0 : Nat) (v1 : Int32) (v2 : Int32) : ∀ a, f_X9_addHouse Γ M v0 v1 v2 = some a → rhC E 1 yX9_addHouse cX9_addHouse 5 none [rhR v0, rhI v1, rhI v2] Γ M ((rhe1U Γ) a) := rhF.met (by decide +kernel) (Nat.le_of_ble_eq_true rfl) (b_X9_addHouse M v0 v1 v2)
def f_X4_readHouse_164 (Γ : rhG) (M : rhM) (v0 : Nat) (v1 : Int64) (v3 : Int32) (v4 : Int32) (v5 : Int32) : Option (rhM) :=
  rhck (Γ.2.2.1 v0 = 5) <|
  (f_X4_takeSign Γ M v0 (59 : Int32)).bind fun r35 =>
  if (r35.1 v0 0) = 0 then
    (rhck (Γ.2.2.1 (r35.2.2 v0 10) = 10) <|
    rhck (Γ.2.2.1 (r35.2.2 v0 4) = 16) <|
    rhck (0 ≤ (r35.1 (r35.2.2 v0 10) 1).toInt ∧ (r35.1 (r35.2.2 v0 10) 1).toInt < (Γ.2.2.2 (r35.2.2 v0 4) : Nat)) <|
    let M40 := rhsl r35 (r35.2.2 v0 4) (r35.1 (r35.2.2 v0 10) 1 : Int32).toNatClampNeg v1
    rhck (Γ.2.2.1 (r35.2.2 v0 5) = 15) <|
    rhck (0 ≤ (r35.1 (r35.2.2 v0 10) 1).toInt ∧ (r35.1 (r35.2.2 v0 10) 1).toInt < (Γ.2.2.2 (r35.2.2 v0 5) : Nat)) <|
    let M43 := rhsi M40 (r35.2.2 v0 5) (r35.1 (r35.2.2 v0 10) 1 : Int32).toNatClampNeg v5
    rhck (Γ.2.2.1 (r35.2.2 v0 6) = 15) <|
    rhck (0 ≤ (v5).toInt ∧ (v5).toInt < (Γ.2.2.2 (r35.2.2 v0 6) : Nat)) <|
    let M46 := rhsi M43 (r35.2.2 v0 6) (v5 : Int32).toNatClampNeg ((M43.1 (r35.2.2 v0 6) v5.toNatClampNeg) ||| (1 <<< ((M43.1 (r35.2.2 v0 10) 1) &&& 31)))
    (f_X9_addHouse Γ M46 (r35.2.2 v0 10) v3 v4).bind fun r47 =>
    some r47)
  else
    some r35
def f_X4_readHouse_137 (Γ : rhG) (M : rhM) (v0 : Nat) (v1 : Int64) (v3 : Int32) (v4 : Int32) (v5 : Int32) (v6 : Int32) (s0 : Int32) : Option (rhM) :=
  rhck (Γ.2.2.1 v0 = 5) <|
  rhck (Γ.2.2.1 (M.2.2 v0 2) = 9) <|
  if (M.1 (M.2.2 v0 2) 9) = 59 then
    (if s0 = 0 then
      ((f_X4_blame Γ M v0 (6 : Int32) v6).bind fun r33 =>
      f_X4_readHouse_164 Γ r33 v0 v1 v3 v4 v5)
    else
      f_X4_readHouse_164 Γ M v0 v1 v3 v4 v5)
  else
    f_X4_readHouse_164 Γ M v0 v1 v3 v4 v5
def f_X4_readHouse_18 (Γ : rhG) (M : rhM) (v0 : Nat) (s0 : Nat) (s1 : Int32) : Option (rhM) :=
  rhck (Γ.2.2.1 s0 = 5) <|
  (f_X4_advanceUnless Γ M s0 s1).bind fun r5 =>
  rhck (Γ.2.2.1 v0 = 5) <|
  rhck (Γ.2.2.1 (r5.2.2 v0 10) = 10) <|
  (f_X4_takeNewName Γ r5 v0 (r5.2.2 v0 4) (r5.1 (r5.2.2 v0 10) 1)).bind fun r8 =>
  let x9 := r8.1
  (f_X4_takeWord Γ r8.2 v0 (6 : Int32)).bind fun r10 =>
  rhck (Γ.2.2.1 (r10.2.2 v0 2) = 9) <|
  (f_X4_takeNumber Γ r10 v0 (1 : Int32) (9 : Int32) (r10.1 (r10.2.2 v0 2) 5)).bind fun r12 =>
  let x13 := r12.1
  (f_X4_takeWord Γ r12.2 v0 (7 : Int32)).bind fun r14 =>
  rhck (Γ.2.2.1 (r14.2.2 v0 2) = 9) <|
  (f_X4_takeNumber Γ r14 v0 (1 : Int32) (99 : Int32) (r14.1 (r14.2.2 v0 2) 5)).bind fun r16 =>
  let x17 := r16.1
  (f_X4_takeWord Γ r16.2 v0 (8 : Int32)).bind fun r18 =>
  rhck (Γ.2.2.1 (r18.2.2 v0 10) = 10) <|
  (f_X4_takeToldName Γ r18 v0 (r18.2.2 v0 3) (r18.1 (r18.2.2 v0 10) 0)).bind fun r20 =>
  let x21 := r20.1
  rhck (Γ.2.2.1 (r20.2.2.2 v0 2) = 9) <|
  let x23 := r20.2.1 (r20.2.2.2 v0 2) 5
  rhck (Γ.2.2.1 (r20.2.2.2 v0 6) = 15) <|
  rhck (0 ≤ (x21).toInt ∧ (x21).toInt < (Γ.2.2.2 (r20.2.2.2 v0 6) : Nat)) <|
  rhck (Γ.2.2.1 (r20.2.2.2 v0 10) = 10) <|
  (f_X9_roomBeside Γ r20.2 (r20.2.2.2 v0 10) x21 (r20.2.1 (r20.2.2.2 v0 6) x21.toNatClampNeg)).bind fun r27 =>
  if r27 < x13 then
    (f_X4_readHouse_137 Γ r20.2 v0 x9 x13 x17 x21 x23 0)
  else
    f_X4_readHouse_137 Γ r20.2 v0 x9 x13 x17 x21 x23 1
def f_X4_readHouse (Γ : rhG) (M : rhM) (v0 : Nat) : Option (rhM) :=
  rhck (Γ.2.2.1 v0 = 5) <|
  rhck (Γ.2.2.1 (M.2.2 v0 10) = 10) <|
  if (M.1 (M.2.2 v0 10) 1) < 8 then
    (f_X4_readHouse_18 Γ M v0 v0 0)
  else
    f_X4_readHouse_18 Γ M v0 v0 1
set_option maxHeartbeats 4000000 in
set_option maxRecDepth 100000 in
theorem b_X4_readHouse_164 {E : rhE} {Γ : rhG} : ∀ (M : rhM) (v0 : Nat) (v1 : Int64) (v3 : Int32) (v4 : Int32) (v5 : Int32), rhF E 8 8 yX4_readHouse cX4_readHouse none Γ (rhe1U Γ) (f_X4_readHouse_164 Γ M v0 v1 v3 v4 v5) 164 [(0, rhR v0), (1, rhJ v1), (3, rhI v3), (4, rhI v4), (5, rhI v5)] [] Γ M := by
  intro M v0 v1 v3 v4 v5
  rw [f_X4_readHouse_164]
  refine rhF.aload_n (pc := 164) dX4_readHouse_164 0 rfl ?_
  refine rhF.bipush (pc := 165) (v := 59) dX4_readHouse_165 (by decide) ?_
  refine rhF.ck (fun h34 => ?_)
  refine rhF.callV (pc := 167) (ci := 4) (embc := rhe1U _) [rhI _] dX4_readHouse_167 ml_X4_158 mv_X4_takeSign ⟨_, rfl, rfl⟩ h34 (c_X4_takeSign _ _ _ _ _) (by decide) (by decide) rfl (Nat.le_of_ble_eq_true rfl) (fun r35 _ => ?_)
  refine rhF.aload_n (pc := 170) dX4_readHouse_170 0 rfl ?_
  refine rhF.get (pc := 171) (rhI _) dX4_readHouse_171 fl_X4_43 h34 rfl ?_
  refine rhF.if_ne (pc := 174) 233 dX4_readHouse_174 (by decide) (fun h36 => ?_) (fun h36 => ?_)
  · refine rhF.aload_n (pc := 177) dX4_readHouse_177 0 rfl ?_
    refine rhF.get (pc := 178) (rhR _) dX4_readHouse_178 fl_X4_26 h34 rfl ?_
    refine rhF.aload_n (pc := 181) dX4_readHouse_181 0 rfl ?_
    refine rhF.get (pc := 182) (rhR _) dX4_readHouse_182 fl_X4_73 h34 rfl ?_
    refine rhF.ck (fun h37 => ?_)
    refine rhF.get (pc := 185) (rhI _) dX4_readHouse_185 fl_X4_118 h37 rfl ?_
    refine rhF.lload_n (pc := 188) dX4_readHouse_188 1 rfl ?_
    refine rhF.ck (fun h38 => ?_)
    refine rhF.ck (fun h39 => ?_)
    refine rhF.last (pc := 189) dX4_readHouse_189 h38 h39 ?_
    refine rhF.aload_n (pc := 190) dX4_readHouse_190 0 rfl ?_
    refine rhF.get (pc := 191) (rhR _) dX4_readHouse_191 fl_X4_29 h34 rfl ?_
    refine rhF.aload_n (pc := 194) dX4_readHouse_194 0 rfl ?_
    refine rhF.get (pc := 195) (rhR _) dX4_readHouse_195 fl_X4_73 h34 rfl ?_
    refine rhF.get (pc := 198) (rhI _) dX4_readHouse_198 fl_X4_118 h37 rfl ?_
    refine rhF.iload (pc := 201) dX4_readHouse_201 4 rfl ?_
    refine rhF.ck (fun h41 => ?_)
    refine rhF.ck (fun h42 => ?_)
    refine rhF.iast (pc := 203) dX4_readHouse_203 h41 h42 ?_
    refine rhF.aload_n (pc := 204) dX4_readHouse_204 0 rfl ?_
    refine rhF.get (pc := 205) (rhR _) dX4_readHouse_205 fl_X4_33 h34 rfl ?_
    refine rhF.iload (pc := 208) dX4_readHouse_208 4 rfl ?_
    refine rhF.dup2ri (pc := 210) dX4_readHouse_210 ?_
    refine rhF.ck (fun h44 => ?_)
    refine rhF.ck (fun h45 => ?_)
    refine rhF.iald (pc := 211) dX4_readHouse_211 h44 h45 ?_
    refine rhF.iconst (pc := 212) (v := 1) dX4_readHouse_212 (by decide) ?_
    refine rhF.aload_n (pc := 213) dX4_readHouse_213 0 rfl ?_
    refine rhF.get (pc := 214) (rhR _) dX4_readHouse_214 fl_X4_73 h34 rfl ?_
    refine rhF.get (pc := 217) (rhI _) dX4_readHouse_217 fl_X4_118 h37 rfl ?_
    refine rhF.ishl (pc := 220) dX4_readHouse_220 ?_
    refine rhF.ior (pc := 221) dX4_readHouse_221 ?_
    refine rhF.iast (pc := 222) dX4_readHouse_222 h44 h45 ?_
    refine rhF.aload_n (pc := 223) dX4_readHouse_223 0 rfl ?_
    refine rhF.get (pc := 224) (rhR _) dX4_readHouse_224 fl_X4_73 h34 rfl ?_
    refine rhF.iload_n (pc := 227) dX4_readHouse_227 2 rfl ?_
    refine rhF.iload (pc := 228) dX4_readHouse_228 3 rfl ?_
    refine rhF.callV (pc := 230) (ci := 9) (embc := rhe1U _) [rhI _, rhI _] dX4_readHouse_230 ml_X4_172 mv_X9_addHouse ⟨_, rfl, rfl⟩ h37 (c_X9_addHouse _ _ _ _ _ _) (by decide) (by decide) rfl (Nat.le_of_ble_eq_true rfl) (fun r47 _ => ?_)
    exact rhF.vret (pc := 233) dX4_readHouse_233 rfl rfl
  · exact rhF.vret (pc := 233) dX4_readHouse_233 rfl rfl
set_option maxHeartbeats 4000000 in
set_option maxRecDepth 100000 in
theorem b_X4_readHouse_137 {E : rhE} {Γ : rhG} : ∀ (M : rhM) (v0 : Nat) (v1 : Int64) (v3 : Int32) (v4 : Int32) (v5 : Int32) (v6 : Int32) (s0 : Int32), rhF E 8 8 yX4_readHouse cX4_readHouse none Γ (rhe1U Γ) (f_X4_readHouse_137 Γ M v0 v1 v3 v4 v5 v6 s0) 137 [(0, rhR v0), (1, rhJ v1), (3, rhI v3), (4, rhI v4), (5, rhI v5), (6, rhI v6)] [rhI s0] Γ M := by
  intro M v0 v1 v3 v4 v5 v6 s0
  rw [f_X4_readHouse_137]
  refine rhF.istore (pc := 137) (L' := [(7, rhI _), (0, rhR _), (1, rhJ _), (3, rhI _), (4, rhI _), (5, rhI _), (6, rhI _)]) dX4_readHouse_137 (by decide) rfl ?_
  refine rhF.aload_n (pc := 139) dX4_readHouse_139 1 rfl ?_
  refine rhF.ck (fun h29 => ?_)
  refine rhF.get (pc := 140) (rhR _) dX4_readHouse_140 fl_X4_18 h29 rfl ?_
  refine rhF.ck (fun h30 => ?_)
  refine rhF.get (pc := 143) (rhI _) dX4_readHouse_143 fl_X4_129 h30 rfl ?_
  refine rhF.bipush (pc := 146) (v := 59) dX4_readHouse_146 (by decide) ?_
  refine rhF.icmp_ne (pc := 148) 164 dX4_readHouse_148 (by decide) (fun h31 => ?_) (fun h31 => ?_)
  · refine rhF.iload (pc := 151) dX4_readHouse_151 0 rfl ?_
    refine rhF.if_ne (pc := 153) 164 dX4_readHouse_153 (by decide) (fun h32 => ?_) (fun h32 => ?_)
    · refine rhF.aload_n (pc := 156) dX4_readHouse_156 1 rfl ?_
      refine rhF.bipush (pc := 157) (v := 6) dX4_readHouse_157 (by decide) ?_
      refine rhF.iload (pc := 159) dX4_readHouse_159 6 rfl ?_
      refine rhF.callV (pc := 161) (ci := 4) (embc := rhe1U _) [rhI _, rhI _] dX4_readHouse_161 ml_X4_122 mv_X4_blame ⟨_, rfl, rfl⟩ h29 (c_X4_blame _ _ _ _ _ _) (by decide) (by decide) rfl (Nat.le_of_ble_eq_true rfl) (fun r33 _ => ?_)
      refine rhF.sub [1, 2, 3, 4, 5] rfl ?_
      exact (b_X4_readHouse_164) _ _ _ _ _ _
    · refine rhF.sub [1, 2, 3, 4, 5] rfl ?_
      exact (b_X4_readHouse_164) _ _ _ _ _ _
  · refine rhF.sub [1, 2, 3, 4, 5] rfl ?_
    exact (b_X4_readHouse_164) _ _ _ _ _ _
set_option maxHeartbeats 4000000 in
set_option maxRecDepth 100000 in
theorem b_X4_readHouse_18 {E : rhE} {Γ : rhG} : ∀ (M : rhM) (v0 : Nat) (s0 : Nat) (s1 : Int32), rhF E 8 8 yX4_readHouse cX4_readHouse none Γ (rhe1U Γ) (f_X4_readHouse_18 Γ M v0 s0 s1) 18 [(0, rhR v0)] [rhI s1, rhR s0] Γ M := by
  intro M v0 s0 s1
  rw [f_X4_readHouse_18]
  refine rhF.ck (fun h4 => ?_)
  refine rhF.callV (pc := 18) (ci := 4) (embc := rhe1U _) [rhI _] dX4_readHouse_18 ml_X4_146 mv_X4_advanceUnless ⟨_, rfl, rfl⟩ h4 (c_X4_advanceUnless _ _ _ _ _) (by decide) (by decide) rfl (Nat.le_of_ble_eq_true rfl) (fun r5 _ => ?_)
  refine rhF.aload_n (pc := 21) dX4_readHouse_21 0 rfl ?_
  refine rhF.aload_n (pc := 22) dX4_readHouse_22 0 rfl ?_
  refine rhF.ck (fun h6 => ?_)
  refine rhF.get (pc := 23) (rhR _) dX4_readHouse_23 fl_X4_26 h6 rfl ?_
  refine rhF.aload_n (pc := 26) dX4_readHouse_26 0 rfl ?_
  refine rhF.get (pc := 27) (rhR _) dX4_readHouse_27 fl_X4_73 h6 rfl ?_
  refine rhF.ck (fun h7 => ?_)
  refine rhF.get (pc := 30) (rhI _) dX4_readHouse_30 fl_X4_118 h7 rfl ?_
  refine rhF.callV (pc := 33) (ci := 4) (embc := rhe1J _) [rhR _, rhI _] dX4_readHouse_33 ml_X4_150 mv_X4_takeNewName ⟨_, rfl, rfl⟩ h6 (c_X4_takeNewName _ _ _ _ _ _) (by decide) (by decide) rfl (Nat.le_of_ble_eq_true rfl) (fun r8 _ => ?_)
  refine rhF.lstore_n (pc := 36) (L' := [(1, rhJ _), (0, rhR _)]) dX4_readHouse_36 (by decide) rfl ?_
  refine rhF.aload_n (pc := 37) dX4_readHouse_37 1 rfl ?_
  refine rhF.bipush (pc := 38) (v := 6) dX4_readHouse_38 (by decide) ?_
  refine rhF.callV (pc := 40) (ci := 4) (embc := rhe1U _) [rhI _] dX4_readHouse_40 ml_X4_154 mv_X4_takeWord ⟨_, rfl, rfl⟩ h6 (c_X4_takeWord _ _ _ _ _) (by decide) (by decide) rfl (Nat.le_of_ble_eq_true rfl) (fun r10 _ => ?_)
  refine rhF.aload_n (pc := 43) dX4_readHouse_43 1 rfl ?_
  refine rhF.iconst (pc := 44) (v := 1) dX4_readHouse_44 (by decide) ?_
  refine rhF.bipush (pc := 45) (v := 9) dX4_readHouse_45 (by decide) ?_
  refine rhF.aload_n (pc := 47) dX4_readHouse_47 1 rfl ?_
  refine rhF.get (pc := 48) (rhR _) dX4_readHouse_48 fl_X4_18 h6 rfl ?_
  refine rhF.ck (fun h11 => ?_)
  refine rhF.get (pc := 51) (rhI _) dX4_readHouse_51 fl_X4_121 h11 rfl ?_
  refine rhF.callV (pc := 54) (ci := 4) (embc := rhe1I _) [rhI _, rhI _, rhI _] dX4_readHouse_54 ml_X4_135 mv_X4_takeNumber ⟨_, rfl, rfl⟩ h6 (c_X4_takeNumber _ _ _ _ _ _ _) (by decide) (by decide) rfl (Nat.le_of_ble_eq_true rfl) (fun r12 _ => ?_)
  refine rhF.istore_n (pc := 57) (L' := [(3, rhI _), (1, rhJ _), (0, rhR _)]) dX4_readHouse_57 (by decide) rfl ?_
  refine rhF.aload_n (pc := 58) dX4_readHouse_58 2 rfl ?_
  refine rhF.bipush (pc := 59) (v := 7) dX4_readHouse_59 (by decide) ?_
  refine rhF.callV (pc := 61) (ci := 4) (embc := rhe1U _) [rhI _] dX4_readHouse_61 ml_X4_154 mv_X4_takeWord ⟨_, rfl, rfl⟩ h6 (c_X4_takeWord _ _ _ _ _) (by decide) (by decide) rfl (Nat.le_of_ble_eq_true rfl) (fun r14 _ => ?_)
  refine rhF.aload_n (pc := 64) dX4_readHouse_64 2 rfl ?_
  refine rhF.iconst (pc := 65) (v := 1) dX4_readHouse_65 (by decide) ?_
  refine rhF.bipush (pc := 66) (v := 99) dX4_readHouse_66 (by decide) ?_
  refine rhF.aload_n (pc := 68) dX4_readHouse_68 2 rfl ?_
  refine rhF.get (pc := 69) (rhR _) dX4_readHouse_69 fl_X4_18 h6 rfl ?_
  refine rhF.ck (fun h15 => ?_)
  refine rhF.get (pc := 72) (rhI _) dX4_readHouse_72 fl_X4_121 h15 rfl ?_
  refine rhF.callV (pc := 75) (ci := 4) (embc := rhe1I _) [rhI _, rhI _, rhI _] dX4_readHouse_75 ml_X4_135 mv_X4_takeNumber ⟨_, rfl, rfl⟩ h6 (c_X4_takeNumber _ _ _ _ _ _ _) (by decide) (by decide) rfl (Nat.le_of_ble_eq_true rfl) (fun r16 _ => ?_)
  refine rhF.istore (pc := 78) (L' := [(4, rhI _), (3, rhI _), (1, rhJ _), (0, rhR _)]) dX4_readHouse_78 (by decide) rfl ?_
  refine rhF.aload_n (pc := 80) dX4_readHouse_80 3 rfl ?_
  refine rhF.bipush (pc := 81) (v := 8) dX4_readHouse_81 (by decide) ?_
  refine rhF.callV (pc := 83) (ci := 4) (embc := rhe1U _) [rhI _] dX4_readHouse_83 ml_X4_154 mv_X4_takeWord ⟨_, rfl, rfl⟩ h6 (c_X4_takeWord _ _ _ _ _) (by decide) (by decide) rfl (Nat.le_of_ble_eq_true rfl) (fun r18 _ => ?_)
  refine rhF.aload_n (pc := 86) dX4_readHouse_86 3 rfl ?_
  refine rhF.aload_n (pc := 87) dX4_readHouse_87 3 rfl ?_
  refine rhF.get (pc := 88) (rhR _) dX4_readHouse_88 fl_X4_22 h6 rfl ?_
  refine rhF.aload_n (pc := 91) dX4_readHouse_91 3 rfl ?_
  refine rhF.get (pc := 92) (rhR _) dX4_readHouse_92 fl_X4_73 h6 rfl ?_
  refine rhF.ck (fun h19 => ?_)
  refine rhF.get (pc := 95) (rhI _) dX4_readHouse_95 fl_X4_111 h19 rfl ?_
  refine rhF.callV (pc := 98) (ci := 4) (embc := rhe1I _) [rhR _, rhI _] dX4_readHouse_98 ml_X4_164 mv_X4_takeToldName ⟨_, rfl, rfl⟩ h6 (c_X4_takeToldName _ _ _ _ _ _) (by decide) (by decide) rfl (Nat.le_of_ble_eq_true rfl) (fun r20 _ => ?_)
  refine rhF.istore (pc := 101) (L' := [(5, rhI _), (4, rhI _), (3, rhI _), (1, rhJ _), (0, rhR _)]) dX4_readHouse_101 (by decide) rfl ?_
  refine rhF.aload_n (pc := 103) dX4_readHouse_103 4 rfl ?_
  refine rhF.get (pc := 104) (rhR _) dX4_readHouse_104 fl_X4_18 h6 rfl ?_
  refine rhF.ck (fun h22 => ?_)
  refine rhF.get (pc := 107) (rhI _) dX4_readHouse_107 fl_X4_121 h22 rfl ?_
  refine rhF.istore (pc := 110) (L' := [(6, rhI _), (5, rhI _), (4, rhI _), (3, rhI _), (1, rhJ _), (0, rhR _)]) dX4_readHouse_110 (by decide) rfl ?_
  refine rhF.iload_n (pc := 112) dX4_readHouse_112 3 rfl ?_
  refine rhF.aload_n (pc := 113) dX4_readHouse_113 5 rfl ?_
  refine rhF.get (pc := 114) (rhR _) dX4_readHouse_114 fl_X4_73 h6 rfl ?_
  refine rhF.iload (pc := 117) dX4_readHouse_117 1 rfl ?_
  refine rhF.aload_n (pc := 119) dX4_readHouse_119 5 rfl ?_
  refine rhF.get (pc := 120) (rhR _) dX4_readHouse_120 fl_X4_33 h6 rfl ?_
  refine rhF.iload (pc := 123) dX4_readHouse_123 1 rfl ?_
  refine rhF.ck (fun h24 => ?_)
  refine rhF.ck (fun h25 => ?_)
  refine rhF.iald (pc := 125) dX4_readHouse_125 h24 h25 ?_
  refine rhF.ck (fun h26 => ?_)
  refine rhF.callV (pc := 126) (ci := 9) (embc := rhe0I _ _) [rhI _, rhI _] dX4_readHouse_126 ml_X4_168 mv_X9_roomBeside ⟨_, rfl, rfl⟩ h26 (c_X9_roomBeside _ _ _ _ _ _) (by decide) (by decide) rfl (Nat.le_of_ble_eq_true rfl) (fun r27 _ => ?_)
  refine rhF.icmp_gt (pc := 129) 136 dX4_readHouse_129 (by decide) (fun h28 => ?_) (fun h28 => ?_)
  · refine rhF.iconst (pc := 136) (v := 0) dX4_readHouse_136 (by decide) ?_
    refine rhF.sub [5, 4, 3, 2, 1, 0] rfl ?_
    exact (b_X4_readHouse_137) _ _ _ _ _ _ _ _
  · refine rhF.iconst (pc := 132) (v := 1) dX4_readHouse_132 (by decide) ?_
    refine rhF.goto (pc := 133) 137 dX4_readHouse_133 (by decide) ?_
    refine rhF.sub [5, 4, 3, 2, 1, 0] rfl ?_
    exact (b_X4_readHouse_137) _ _ _ _ _ _ _ _
set_option maxHeartbeats 4000000 in
set_option maxRecDepth 100000 in
theorem b_X4_readHouse {E : rhE} {Γ : rhG} : ∀ (M : rhM) (v0 : Nat), rhF E 8 8 yX4_readHouse cX4_readHouse none Γ (rhe1U Γ) (f_X4_readHouse Γ M v0) 0 [(0, rhR v0)] [] Γ M := by
  intro M v0
  rw [f_X4_readHouse]
  refine rhF.aload_n (pc := 0) dX4_readHouse_0 0 rfl ?_
  refine rhF.aload_n (pc := 1) dX4_readHouse_1 0 rfl ?_
  refine rhF.ck (fun h1 => ?_)
  refine rhF.get (pc := 2) (rhR _) dX4_readHouse_2 fl_X4_73 h1 rfl ?_
  refine rhF.ck (fun h2 => ?_)
  refine rhF.get (pc := 5) (rhI _) dX4_readHouse_5 fl_X4_118 h2 rfl ?_
  refine rhF.bipush (pc := 8) (v := 8) dX4_readHouse_8 (by decide) ?_
  refine rhF.icmp_lt (pc := 10) 17 dX4_readHouse_10 (by decide) (fun h3 => ?_) (fun h3 => ?_)
  · refine rhF.iconst (pc := 17) (v := 0) dX4_readHouse_17 (by decide) ?_
    exact (b_X4_readHouse_18) _ _ _ _
  · refine rhF.iconst (pc := 13) (v := 1) dX4_readHouse_13 (by decide) ?_
    refine rhF.goto (pc := 14) 18 dX4_readHouse_14 (by decide) ?_
    exact (b_X4_readHouse_18) _ _ _ _
theorem c_X4_readHouse (E : rhE) (Γ : rhG) (M : rhM) (v0 : Nat) : ∀ a, f_X4_readHouse Γ M v0 = some a → rhC E 8 yX4_readHouse cX4_readHouse 8 none [rhR v0] Γ M ((rhe1U Γ) a) := rhF.met (by decide +kernel) (Nat.le_of_ble_eq_true rfl) (b_X4_readHouse M v0)
def f_X4_readLaw (Γ : rhG) (M : rhM) (v0 : Nat) : Option (rhM) :=
  rhck (Γ.2.2.1 v0 = 5) <|
  (f_X4_advanceUnless Γ M v0 (M.1 v0 9)).bind fun r2 =>
  let M3 := rhsi r2 v0 9 1
  (h_X4_readEither rhDP Γ M3 v0 (0 : Int32)).bind fun r4 =>
  (f_X4_takeSign Γ r4 v0 (59 : Int32)).bind fun r5 =>
  some r5
set_option maxHeartbeats 4000000 in
set_option maxRecDepth 100000 in
theorem b_X4_readLaw {E : rhE} {Γ : rhG} : ∀ (M : rhM) (v0 : Nat), rhF E 69 1 yX4_readLaw cX4_readLaw none Γ (rhe1U Γ) (f_X4_readLaw Γ M v0) 0 [(0, rhR v0)] [] Γ M := by
  intro M v0
  rw [f_X4_readLaw]
  refine rhF.aload_n (pc := 0) dX4_readLaw_0 0 rfl ?_
  refine rhF.aload_n (pc := 1) dX4_readLaw_1 0 rfl ?_
  refine rhF.ck (fun h1 => ?_)
  refine rhF.get (pc := 2) (rhI _) dX4_readLaw_2 fl_X4_108 h1 rfl ?_
  refine rhF.callV (pc := 5) (ci := 4) (embc := rhe1U _) [rhI _] dX4_readLaw_5 ml_X4_146 mv_X4_advanceUnless ⟨_, rfl, rfl⟩ h1 (c_X4_advanceUnless _ _ _ _ _) (by decide) (by decide) rfl (Nat.le_of_ble_eq_true rfl) (fun r2 _ => ?_)
  refine rhF.aload_n (pc := 8) dX4_readLaw_8 0 rfl ?_
  refine rhF.iconst (pc := 9) (v := 1) dX4_readLaw_9 (by decide) ?_
  refine rhF.puti (pc := 10) dX4_readLaw_10 fl_X4_108 h1 (fun q hq => by cases hq; exact Or.inl rfl) ⟨rfl, rfl⟩ (fun _ => rfl) ?_
  refine rhF.aload_n (pc := 13) dX4_readLaw_13 0 rfl ?_
  refine rhF.iconst (pc := 14) (v := 0) dX4_readLaw_14 (by decide) ?_
  refine rhF.callV (pc := 15) (ci := 4) (embc := rhe1U _) [rhI _] dX4_readLaw_15 ml_X4_196 mv_X4_readEither ⟨_, rfl, rfl⟩ h1 (c_X4_readEither _ rhDP _ _ _ _) (by decide) (by decide) rfl (Nat.le_of_ble_eq_true rfl) (fun r4 _ => ?_)
  refine rhF.aload_n (pc := 18) dX4_readLaw_18 0 rfl ?_
  refine rhF.bipush (pc := 19) (v := 59) dX4_readLaw_19 (by decide) ?_
  refine rhF.callV (pc := 21) (ci := 4) (embc := rhe1U _) [rhI _] dX4_readLaw_21 ml_X4_158 mv_X4_takeSign ⟨_, rfl, rfl⟩ h1 (c_X4_takeSign _ _ _ _ _) (by decide) (by decide) rfl (Nat.le_of_ble_eq_true rfl) (fun r5 _ => ?_)
  exact rhF.vret (pc := 24) dX4_readLaw_24 rfl rfl
theorem c_X4_readLaw (E : rhE) (Γ : rhG) (M : rhM) (v0 : Nat) : ∀ a, f_X4_readLaw Γ M v0 = some a → rhC E 69 yX4_readLaw cX4_readLaw 1 none [rhR v0] Γ M ((rhe1U Γ) a) := rhF.met (by decide +kernel) (Nat.le_of_ble_eq_true rfl) (b_X4_readLaw M v0)
def f_X4_readNeck (Γ : rhG) (M : rhM) (v0 : Nat) : Option (rhM) :=
  rhck (Γ.2.2.1 v0 = 5) <|
  (f_X4_advanceUnless Γ M v0 (M.1 v0 7)).bind fun r2 =>
  let M3 := rhsi r2 v0 7 1
  rhck (Γ.2.2.1 (r2.2.2 v0 2) = 9) <|
  (f_X4_takeNumber Γ M3 v0 (1 : Int32) (999 : Int32) (M3.1 (r2.2.2 v0 2) 5)).bind fun r5 =>
  rhck (Γ.2.2.1 (r2.2.2 v0 10) = 10) <|
  let M7 := rhsi r5.2 (r2.2.2 v0 10) 2 r5.1
  (f_X4_takeSign Γ M7 v0 (59 : Int32)).bind fun r8 =>
  some r8
set_option maxHeartbeats 4000000 in
set_option maxRecDepth 100000 in
theorem b_X4_readNeck {E : rhE} {Γ : rhG} : ∀ (M : rhM) (v0 : Nat), rhF E 8 1 yX4_readNeck cX4_readNeck none Γ (rhe1U Γ) (f_X4_readNeck Γ M v0) 0 [(0, rhR v0)] [] Γ M := by
  intro M v0
  rw [f_X4_readNeck]
  refine rhF.aload_n (pc := 0) dX4_readNeck_0 0 rfl ?_
  refine rhF.aload_n (pc := 1) dX4_readNeck_1 0 rfl ?_
  refine rhF.ck (fun h1 => ?_)
  refine rhF.get (pc := 2) (rhI _) dX4_readNeck_2 fl_X4_101 h1 rfl ?_
  refine rhF.callV (pc := 5) (ci := 4) (embc := rhe1U _) [rhI _] dX4_readNeck_5 ml_X4_146 mv_X4_advanceUnless ⟨_, rfl, rfl⟩ h1 (c_X4_advanceUnless _ _ _ _ _) (by decide) (by decide) rfl (Nat.le_of_ble_eq_true rfl) (fun r2 _ => ?_)
  refine rhF.aload_n (pc := 8) dX4_readNeck_8 0 rfl ?_
  refine rhF.iconst (pc := 9) (v := 1) dX4_readNeck_9 (by decide) ?_
  refine rhF.puti (pc := 10) dX4_readNeck_10 fl_X4_101 h1 (fun q hq => by cases hq; exact Or.inl rfl) ⟨rfl, rfl⟩ (fun _ => rfl) ?_
  refine rhF.aload_n (pc := 13) dX4_readNeck_13 0 rfl ?_
  refine rhF.get (pc := 14) (rhR _) dX4_readNeck_14 fl_X4_73 h1 rfl ?_
  refine rhF.aload_n (pc := 17) dX4_readNeck_17 0 rfl ?_
  refine rhF.iconst (pc := 18) (v := 1) dX4_readNeck_18 (by decide) ?_
  refine rhF.sipush (pc := 19) (v := 999) dX4_readNeck_19 (by decide) ?_
  refine rhF.aload_n (pc := 22) dX4_readNeck_22 0 rfl ?_
  refine rhF.get (pc := 23) (rhR _) dX4_readNeck_23 fl_X4_18 h1 rfl ?_
  refine rhF.ck (fun h4 => ?_)
  refine rhF.get (pc := 26) (rhI _) dX4_readNeck_26 fl_X4_121 h4 rfl ?_
  refine rhF.callV (pc := 29) (ci := 4) (embc := rhe1I _) [rhI _, rhI _, rhI _] dX4_readNeck_29 ml_X4_135 mv_X4_takeNumber ⟨_, rfl, rfl⟩ h1 (c_X4_takeNumber _ _ _ _ _ _ _) (by decide) (by decide) rfl (Nat.le_of_ble_eq_true rfl) (fun r5 _ => ?_)
  refine rhF.ck (fun h6 => ?_)
  refine rhF.puti (pc := 32) dX4_readNeck_32 fl_X4_190 h6 (fun q hq => by cases hq; exact Or.inl rfl) ⟨rfl, rfl⟩ (fun _ => rfl) ?_
  refine rhF.aload_n (pc := 35) dX4_readNeck_35 0 rfl ?_
  refine rhF.bipush (pc := 36) (v := 59) dX4_readNeck_36 (by decide) ?_
  refine rhF.callV (pc := 38) (ci := 4) (embc := rhe1U _) [rhI _] dX4_readNeck_38 ml_X4_158 mv_X4_takeSign ⟨_, rfl, rfl⟩ h1 (c_X4_takeSign _ _ _ _ _) (by decide) (by decide) rfl (Nat.le_of_ble_eq_true rfl) (fun r8 _ => ?_)
  exact rhF.vret (pc := 41) dX4_readNeck_41 rfl rfl
theorem c_X4_readNeck (E : rhE) (Γ : rhG) (M : rhM) (v0 : Nat) : ∀ a, f_X4_readNeck Γ M v0 = some a → rhC E 8 yX4_readNeck cX4_readNeck 1 none [rhR v0] Γ M ((rhe1U Γ) a) := rhF.met (by decide +kernel) (Nat.le_of_ble_eq_true rfl) (b_X4_readNeck M v0)
def f_X9_addRail (Γ : rhG) (M : rhM) (v0 : Nat) (v1 : Int32) : Option (rhM) :=
  rhck (Γ.2.2.1 v0 = 10) <|
  if (M.1 v0 0) < 5 then
    (rhck (Γ.2.2.1 (M.2.2 v0 6) = 15) <|
    rhck (0 ≤ (M.1 v0 0).toInt ∧ (M.1 v0 0).toInt < (Γ.2.2.2 (M.2.2 v0 6) : Nat)) <|
    let M5 := rhsi M (M.2.2 v0 6) (M.1 v0 0 : Int32).toNatClampNeg v1
    let M6 := rhsi M5 v0 0 ((M5.1 v0 0) + 1)
    some M6)
  else
    some M
set_option maxHeartbeats 4000000 in
set_option maxRecDepth 100000 in
theorem b_X9_addRail {E : rhE} {Γ : rhG} : ∀ (M : rhM) (v0 : Nat) (v1 : Int32), rhF E 1 2 yX9_addRail cX9_addRail none Γ (rhe1U Γ) (f_X9_addRail Γ M v0 v1) 0 [(0, rhR v0), (1, rhI v1)] [] Γ M := by
  intro M v0 v1
  rw [f_X9_addRail]
  refine rhF.aload_n (pc := 0) dX9_addRail_0 0 rfl ?_
  refine rhF.ck (fun h1 => ?_)
  refine rhF.get (pc := 1) (rhI _) dX9_addRail_1 fl_X9_38 h1 rfl ?_
  refine rhF.iconst (pc := 4) (v := 5) dX9_addRail_4 (by decide) ?_
  refine rhF.icmp_ge (pc := 5) 28 dX9_addRail_5 (by decide) (fun h2 => ?_) (fun h2 => ?_)
  · refine rhF.aload_n (pc := 8) dX9_addRail_8 0 rfl ?_
    refine rhF.get (pc := 9) (rhR _) dX9_addRail_9 fl_X9_9 h1 rfl ?_
    refine rhF.aload_n (pc := 12) dX9_addRail_12 0 rfl ?_
    refine rhF.get (pc := 13) (rhI _) dX9_addRail_13 fl_X9_38 h1 rfl ?_
    refine rhF.iload_n (pc := 16) dX9_addRail_16 1 rfl ?_
    refine rhF.ck (fun h3 => ?_)
    refine rhF.ck (fun h4 => ?_)
    refine rhF.iast (pc := 17) dX9_addRail_17 h3 h4 ?_
    refine rhF.aload_n (pc := 18) dX9_addRail_18 0 rfl ?_
    refine rhF.dupr (pc := 19) dX9_addRail_19 ?_
    refine rhF.get (pc := 20) (rhI _) dX9_addRail_20 fl_X9_38 h1 rfl ?_
    refine rhF.iconst (pc := 23) (v := 1) dX9_addRail_23 (by decide) ?_
    refine rhF.iadd (pc := 24) dX9_addRail_24 ?_
    refine rhF.puti (pc := 25) dX9_addRail_25 fl_X9_38 h1 (fun q hq => by cases hq; exact Or.inl rfl) ⟨rfl, rfl⟩ (fun _ => rfl) ?_
    exact rhF.vret (pc := 28) dX9_addRail_28 rfl rfl
  · exact rhF.vret (pc := 28) dX9_addRail_28 rfl rfl
theorem c_X9_addRail (E : rhE) (Γ : rhG) (M : rhM) (v0 : Nat) (v1 : Int32) : ∀ a, f_X9_addRail Γ M v0 v1 = some a → rhC E 1 yX9_addRail cX9_addRail 2 none [rhR v0, rhI v1] Γ M ((rhe1U Γ) a) := rhF.met (by decide +kernel) (Nat.le_of_ble_eq_true rfl) (b_X9_addRail M v0 v1)
def f_X4_readRail_17 (Γ : rhG) (M : rhM) (v0 : Nat) (s0 : Nat) (s1 : Int32) : Option (rhM) :=
  rhck (Γ.2.2.1 s0 = 5) <|
  (f_X4_advanceUnless Γ M s0 s1).bind fun r5 =>
  rhck (Γ.2.2.1 v0 = 5) <|
  rhck (Γ.2.2.1 (r5.2.2 v0 10) = 10) <|
  (f_X4_takeNewName Γ r5 v0 (r5.2.2 v0 3) (r5.1 (r5.2.2 v0 10) 0)).bind fun r8 =>
  let x9 := r8.1
  (f_X4_takeWord Γ r8.2 v0 (6 : Int32)).bind fun r10 =>
  rhck (Γ.2.2.1 (r10.2.2 v0 2) = 9) <|
  (f_X4_takeNumber Γ r10 v0 (1 : Int32) (99 : Int32) (r10.1 (r10.2.2 v0 2) 5)).bind fun r12 =>
  let x13 := r12.1
  (f_X4_takeSign Γ r12.2 v0 (59 : Int32)).bind fun r14 =>
  if (r14.1 v0 0) = 0 then
    (rhck (Γ.2.2.1 (r14.2.2 v0 10) = 10) <|
    rhck (Γ.2.2.1 (r14.2.2 v0 3) = 16) <|
    rhck (0 ≤ (r14.1 (r14.2.2 v0 10) 0).toInt ∧ (r14.1 (r14.2.2 v0 10) 0).toInt < (Γ.2.2.2 (r14.2.2 v0 3) : Nat)) <|
    let M19 := rhsl r14 (r14.2.2 v0 3) (r14.1 (r14.2.2 v0 10) 0 : Int32).toNatClampNeg x9
    (f_X9_addRail Γ M19 (r14.2.2 v0 10) x13).bind fun r20 =>
    some r20)
  else
    some r14
def f_X4_readRail (Γ : rhG) (M : rhM) (v0 : Nat) : Option (rhM) :=
  rhck (Γ.2.2.1 v0 = 5) <|
  rhck (Γ.2.2.1 (M.2.2 v0 10) = 10) <|
  if (M.1 (M.2.2 v0 10) 0) < 5 then
    (f_X4_readRail_17 Γ M v0 v0 0)
  else
    f_X4_readRail_17 Γ M v0 v0 1
set_option maxHeartbeats 4000000 in
set_option maxRecDepth 100000 in
theorem b_X4_readRail_17 {E : rhE} {Γ : rhG} : ∀ (M : rhM) (v0 : Nat) (s0 : Nat) (s1 : Int32), rhF E 8 4 yX4_readRail cX4_readRail none Γ (rhe1U Γ) (f_X4_readRail_17 Γ M v0 s0 s1) 17 [(0, rhR v0)] [rhI s1, rhR s0] Γ M := by
  intro M v0 s0 s1
  rw [f_X4_readRail_17]
  refine rhF.ck (fun h4 => ?_)
  refine rhF.callV (pc := 17) (ci := 4) (embc := rhe1U _) [rhI _] dX4_readRail_17 ml_X4_146 mv_X4_advanceUnless ⟨_, rfl, rfl⟩ h4 (c_X4_advanceUnless _ _ _ _ _) (by decide) (by decide) rfl (Nat.le_of_ble_eq_true rfl) (fun r5 _ => ?_)
  refine rhF.aload_n (pc := 20) dX4_readRail_20 0 rfl ?_
  refine rhF.aload_n (pc := 21) dX4_readRail_21 0 rfl ?_
  refine rhF.ck (fun h6 => ?_)
  refine rhF.get (pc := 22) (rhR _) dX4_readRail_22 fl_X4_22 h6 rfl ?_
  refine rhF.aload_n (pc := 25) dX4_readRail_25 0 rfl ?_
  refine rhF.get (pc := 26) (rhR _) dX4_readRail_26 fl_X4_73 h6 rfl ?_
  refine rhF.ck (fun h7 => ?_)
  refine rhF.get (pc := 29) (rhI _) dX4_readRail_29 fl_X4_111 h7 rfl ?_
  refine rhF.callV (pc := 32) (ci := 4) (embc := rhe1J _) [rhR _, rhI _] dX4_readRail_32 ml_X4_150 mv_X4_takeNewName ⟨_, rfl, rfl⟩ h6 (c_X4_takeNewName _ _ _ _ _ _) (by decide) (by decide) rfl (Nat.le_of_ble_eq_true rfl) (fun r8 _ => ?_)
  refine rhF.lstore_n (pc := 35) (L' := [(1, rhJ _), (0, rhR _)]) dX4_readRail_35 (by decide) rfl ?_
  refine rhF.aload_n (pc := 36) dX4_readRail_36 1 rfl ?_
  refine rhF.bipush (pc := 37) (v := 6) dX4_readRail_37 (by decide) ?_
  refine rhF.callV (pc := 39) (ci := 4) (embc := rhe1U _) [rhI _] dX4_readRail_39 ml_X4_154 mv_X4_takeWord ⟨_, rfl, rfl⟩ h6 (c_X4_takeWord _ _ _ _ _) (by decide) (by decide) rfl (Nat.le_of_ble_eq_true rfl) (fun r10 _ => ?_)
  refine rhF.aload_n (pc := 42) dX4_readRail_42 1 rfl ?_
  refine rhF.iconst (pc := 43) (v := 1) dX4_readRail_43 (by decide) ?_
  refine rhF.bipush (pc := 44) (v := 99) dX4_readRail_44 (by decide) ?_
  refine rhF.aload_n (pc := 46) dX4_readRail_46 1 rfl ?_
  refine rhF.get (pc := 47) (rhR _) dX4_readRail_47 fl_X4_18 h6 rfl ?_
  refine rhF.ck (fun h11 => ?_)
  refine rhF.get (pc := 50) (rhI _) dX4_readRail_50 fl_X4_121 h11 rfl ?_
  refine rhF.callV (pc := 53) (ci := 4) (embc := rhe1I _) [rhI _, rhI _, rhI _] dX4_readRail_53 ml_X4_135 mv_X4_takeNumber ⟨_, rfl, rfl⟩ h6 (c_X4_takeNumber _ _ _ _ _ _ _) (by decide) (by decide) rfl (Nat.le_of_ble_eq_true rfl) (fun r12 _ => ?_)
  refine rhF.istore_n (pc := 56) (L' := [(3, rhI _), (1, rhJ _), (0, rhR _)]) dX4_readRail_56 (by decide) rfl ?_
  refine rhF.aload_n (pc := 57) dX4_readRail_57 2 rfl ?_
  refine rhF.bipush (pc := 58) (v := 59) dX4_readRail_58 (by decide) ?_
  refine rhF.callV (pc := 60) (ci := 4) (embc := rhe1U _) [rhI _] dX4_readRail_60 ml_X4_158 mv_X4_takeSign ⟨_, rfl, rfl⟩ h6 (c_X4_takeSign _ _ _ _ _) (by decide) (by decide) rfl (Nat.le_of_ble_eq_true rfl) (fun r14 _ => ?_)
  refine rhF.aload_n (pc := 63) dX4_readRail_63 2 rfl ?_
  refine rhF.get (pc := 64) (rhI _) dX4_readRail_64 fl_X4_43 h6 rfl ?_
  refine rhF.if_ne (pc := 67) 91 dX4_readRail_67 (by decide) (fun h15 => ?_) (fun h15 => ?_)
  · refine rhF.aload_n (pc := 70) dX4_readRail_70 2 rfl ?_
    refine rhF.get (pc := 71) (rhR _) dX4_readRail_71 fl_X4_22 h6 rfl ?_
    refine rhF.aload_n (pc := 74) dX4_readRail_74 2 rfl ?_
    refine rhF.get (pc := 75) (rhR _) dX4_readRail_75 fl_X4_73 h6 rfl ?_
    refine rhF.ck (fun h16 => ?_)
    refine rhF.get (pc := 78) (rhI _) dX4_readRail_78 fl_X4_111 h16 rfl ?_
    refine rhF.lload_n (pc := 81) dX4_readRail_81 1 rfl ?_
    refine rhF.ck (fun h17 => ?_)
    refine rhF.ck (fun h18 => ?_)
    refine rhF.last (pc := 82) dX4_readRail_82 h17 h18 ?_
    refine rhF.aload_n (pc := 83) dX4_readRail_83 2 rfl ?_
    refine rhF.get (pc := 84) (rhR _) dX4_readRail_84 fl_X4_73 h6 rfl ?_
    refine rhF.iload_n (pc := 87) dX4_readRail_87 0 rfl ?_
    refine rhF.callV (pc := 88) (ci := 9) (embc := rhe1U _) [rhI _] dX4_readRail_88 ml_X4_161 mv_X9_addRail ⟨_, rfl, rfl⟩ h16 (c_X9_addRail _ _ _ _ _) (by decide) (by decide) rfl (Nat.le_of_ble_eq_true rfl) (fun r20 _ => ?_)
    exact rhF.vret (pc := 91) dX4_readRail_91 rfl rfl
  · exact rhF.vret (pc := 91) dX4_readRail_91 rfl rfl
set_option maxHeartbeats 4000000 in
set_option maxRecDepth 100000 in
theorem b_X4_readRail {E : rhE} {Γ : rhG} : ∀ (M : rhM) (v0 : Nat), rhF E 8 4 yX4_readRail cX4_readRail none Γ (rhe1U Γ) (f_X4_readRail Γ M v0) 0 [(0, rhR v0)] [] Γ M := by
  intro M v0
  rw [f_X4_readRail]
  refine rhF.aload_n (pc := 0) dX4_readRail_0 0 rfl ?_
  refine rhF.aload_n (pc := 1) dX4_readRail_1 0 rfl ?_
  refine rhF.ck (fun h1 => ?_)
  refine rhF.get (pc := 2) (rhR _) dX4_readRail_2 fl_X4_73 h1 rfl ?_
  refine rhF.ck (fun h2 => ?_)
  refine rhF.get (pc := 5) (rhI _) dX4_readRail_5 fl_X4_111 h2 rfl ?_
  refine rhF.iconst (pc := 8) (v := 5) dX4_readRail_8 (by decide) ?_
  refine rhF.icmp_lt (pc := 9) 16 dX4_readRail_9 (by decide) (fun h3 => ?_) (fun h3 => ?_)
  · refine rhF.iconst (pc := 16) (v := 0) dX4_readRail_16 (by decide) ?_
    exact (b_X4_readRail_17) _ _ _ _
  · refine rhF.iconst (pc := 12) (v := 1) dX4_readRail_12 (by decide) ?_
    refine rhF.goto (pc := 13) 17 dX4_readRail_13 (by decide) ?_
    exact (b_X4_readRail_17) _ _ _ _
theorem c_X4_readRail (E : rhE) (Γ : rhG) (M : rhM) (v0 : Nat) : ∀ a, f_X4_readRail Γ M v0 = some a → rhC E 8 yX4_readRail cX4_readRail 4 none [rhR v0] Γ M ((rhe1U Γ) a) := rhF.met (by decide +kernel) (Nat.le_of_ble_eq_true rfl) (b_X4_readRail M v0)
def f_X8_begin (Γ : rhG) (M : rhM) (v0 : Nat) (v1 : Nat) (v2 : Int32) : Option (rhM) :=
  rhck (Γ.2.2.1 v0 = 9) <|
  let M2 := rhsr M v0 1 v1
  rhck (Γ.2.2.1 v1 = 14) <|
  let x4 : Int32 := if (Int32.ofNat (Γ.2.2.2 v1)) < v2 then Int32.ofNat (Γ.2.2.2 v1) else v2
  let M5 := rhsi M2 v0 2 x4
  let M6 := rhsi M5 v0 3 0
  (f_X8_advance Γ M6 v0).bind fun r7 =>
  some r7
set_option maxHeartbeats 4000000 in
set_option maxRecDepth 100000 in
theorem b_X8_begin {E : rhE} {Γ : rhG} : ∀ (M : rhM) (v0 : Nat) (v1 : Nat) (v2 : Int32), rhF E 7 3 yX8_begin cX8_begin none Γ (rhe1U Γ) (f_X8_begin Γ M v0 v1 v2) 0 [(0, rhR v0), (1, rhR v1), (2, rhI v2)] [] Γ M := by
  intro M v0 v1 v2
  rw [f_X8_begin]
  refine rhF.aload_n (pc := 0) dX8_begin_0 0 rfl ?_
  refine rhF.aload_n (pc := 1) dX8_begin_1 1 rfl ?_
  refine rhF.ck (fun h1 => ?_)
  refine rhF.putr (pc := 2) dX8_begin_2 fl_X8_15 h1 (fun q hq => by cases hq; exact Or.inl rfl) (Or.inr ⟨_, rfl⟩) (fun _ => rfl) ?_
  refine rhF.aload_n (pc := 5) dX8_begin_5 0 rfl ?_
  refine rhF.iload_n (pc := 6) dX8_begin_6 2 rfl ?_
  refine rhF.aload_n (pc := 7) dX8_begin_7 1 rfl ?_
  refine rhF.ck (fun h3 => ?_)
  refine rhF.alen14 (pc := 8) dX8_begin_8 h3 ?_
  refine rhF.mmin (pc := 9) dX8_begin_9 mm_X8_31 (by decide) (Nat.le_of_ble_eq_true rfl) ?_
  refine rhF.puti (pc := 12) dX8_begin_12 fl_X8_37 h1 (fun q hq => by cases hq; exact Or.inl rfl) ⟨rfl, rfl⟩ (fun _ => rfl) ?_
  refine rhF.aload_n (pc := 15) dX8_begin_15 0 rfl ?_
  refine rhF.iconst (pc := 16) (v := 0) dX8_begin_16 (by decide) ?_
  refine rhF.puti (pc := 17) dX8_begin_17 fl_X8_41 h1 (fun q hq => by cases hq; exact Or.inl rfl) ⟨rfl, rfl⟩ (fun _ => rfl) ?_
  refine rhF.aload_n (pc := 20) dX8_begin_20 0 rfl ?_
  refine rhF.callV (pc := 21) (ci := 8) (embc := rhe1U _) [] dX8_begin_21 ml_X8_44 mv_X8_advance ⟨_, rfl, rfl⟩ h1 (c_X8_advance _ _ _ _) (by decide) (by decide) rfl (Nat.le_of_ble_eq_true rfl) (fun r7 _ => ?_)
  exact rhF.vret (pc := 24) dX8_begin_24 rfl rfl
theorem c_X8_begin (E : rhE) (Γ : rhG) (M : rhM) (v0 : Nat) (v1 : Nat) (v2 : Int32) : ∀ a, f_X8_begin Γ M v0 v1 v2 = some a → rhC E 7 yX8_begin cX8_begin 3 none [rhR v0, rhR v1, rhI v2] Γ M ((rhe1U Γ) a) := rhF.met (by decide +kernel) (Nat.le_of_ble_eq_true rfl) (b_X8_begin M v0 v1 v2)
